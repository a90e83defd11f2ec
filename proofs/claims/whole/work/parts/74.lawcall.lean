/-! THE LAW: one call of a script -/
section EV
variable {Ω : sn_O} {d : Nat} {E : sn_E} {pc : Nat} {lv st rest : List Value} {h : sn_H} {len nx tg : Nat} {P : Option Value → sn_H → Prop}
theorem EvP.cvx {idx nA ci a : Nat} {fs : List Value} {E' : sn_E} {as : List Value} {P1 : Option Value → sn_H → Prop} (hi : sn_tg E.2.1 pc = some (.invokevirtual idx, len, nx, tg)) (mk : sn_MK E'.2.2 nA) (lk : sn_LV E.1 idx ci E'.2.2 nA) (hsp : sn_spl nA st [] = some (as, .ref a :: rest)) (ha : h[a]? = some (.inr (ci, fs))) (hct : Nat.ble (sn_cts rest) 8 = true) (hS : SpP d E' (.ref a :: as) h P1) (hv : ∀ r h1, P1 r h1 → ∃ v, r = some v) (K : ∀ v h1, P1 (some v) h1 → EvP Ω (d + 1) E nx lv (v :: rest) h1 P) : EvP Ω (d + 1) E pc lv st h P := by
  obtain ⟨r1, h1, sp1, w⟩ := hS
  obtain ⟨v, rfl⟩ := hv r1 h1 w
  exact EvP.s (fun _ _ K => Ev.cv hi mk lk hsp ha hct sp1 K) (K v h1 w)
end EV
def kdc (z : Option va_E) : Nat := match z with
  | some (.inl (k, _, _)) => k
  | some (.inr (c, _)) => 100 + c
  | none => 50
theorem hp_kd {x : sn_X5} {A : sn_A2} {B : sn_B2} {t : sn_H} {i : Nat} (h1 : 5 ≤ i) (h2 : i < 27) : kdc (hp x A B t)[i]? ≠ 102 ∧ kdc (hp x A B t)[i]? ≠ 3 := by
  have h3 : i = 5 ∨ i = 6 ∨ i = 7 ∨ i = 8 ∨ i = 9 ∨ i = 10 ∨ i = 11 ∨ i = 12 ∨ i = 13 ∨ i = 14 ∨ i = 15 ∨ i = 16 ∨ i = 17 ∨ i = 18 ∨ i = 19 ∨ i = 20 ∨ i = 21 ∨ i = 22 ∨ i = 23 ∨ i = 24 ∨ i = 25 ∨ i = 26 := by omega
  rcases h3 with rfl | rfl | rfl | rfl | rfl | rfl | rfl | rfl | rfl | rfl | rfl | rfl | rfl | rfl | rfl | rfl | rfl | rfl | rfl | rfl | rfl | rfl
  · show (101 : Nat) ≠ 102 ∧ (101 : Nat) ≠ 3; decide
  · show (0 : Nat) ≠ 102 ∧ (0 : Nat) ≠ 3; decide
  · show (0 : Nat) ≠ 102 ∧ (0 : Nat) ≠ 3; decide
  · show (0 : Nat) ≠ 102 ∧ (0 : Nat) ≠ 3; decide
  · show (0 : Nat) ≠ 102 ∧ (0 : Nat) ≠ 3; decide
  · show (0 : Nat) ≠ 102 ∧ (0 : Nat) ≠ 3; decide
  · show (0 : Nat) ≠ 102 ∧ (0 : Nat) ≠ 3; decide
  · show (0 : Nat) ≠ 102 ∧ (0 : Nat) ≠ 3; decide
  · show (0 : Nat) ≠ 102 ∧ (0 : Nat) ≠ 3; decide
  · show (1 : Nat) ≠ 102 ∧ (1 : Nat) ≠ 3; decide
  · show (0 : Nat) ≠ 102 ∧ (0 : Nat) ≠ 3; decide
  · show (0 : Nat) ≠ 102 ∧ (0 : Nat) ≠ 3; decide
  · show (0 : Nat) ≠ 102 ∧ (0 : Nat) ≠ 3; decide
  · show (1 : Nat) ≠ 102 ∧ (1 : Nat) ≠ 3; decide
  · show (1 : Nat) ≠ 102 ∧ (1 : Nat) ≠ 3; decide
  · show (2 : Nat) ≠ 102 ∧ (2 : Nat) ≠ 3; decide
  · show (1 : Nat) ≠ 102 ∧ (1 : Nat) ≠ 3; decide
  · show (0 : Nat) ≠ 102 ∧ (0 : Nat) ≠ 3; decide
  · show (0 : Nat) ≠ 102 ∧ (0 : Nat) ≠ 3; decide
  · show (0 : Nat) ≠ 102 ∧ (0 : Nat) ≠ 3; decide
  · show (0 : Nat) ≠ 102 ∧ (0 : Nat) ≠ 3; decide
  · show (0 : Nat) ≠ 102 ∧ (0 : Nat) ≠ 3; decide
theorem BR.fr {h h' : sn_H} {w : sn_Lw} {b : sn_Bk} {ad ru : Nat} (q : BR h w b ad ru) (h27 : 27 ≤ ad) (g : ∀ i, (i < 5 ∨ 27 ≤ i) → h'[i]? = h[i]?) (no : ∀ i, 5 ≤ i → i < 27 → kdc h[i]? ≠ 102 ∧ kdc h[i]? ≠ 3) : BR h' w b ad ru := by
  have ne : ∀ c, 27 ≤ c → h'[c]? = h[c]? := fun c hc => g c (Or.inr hc)
  obtain ⟨⟨hB, fr, hF, hfr⟩, ⟨f1, hN, hn⟩, ⟨f2, hT, ht⟩, hU, hFo, hL, h0⟩ := q
  have hru : ru < 5 ∨ 27 ≤ ru := by
    apply Classical.byContradiction
    intro z
    have := (no ru (by omega) (by omega)).2
    rw [hF] at this
    exact this rfl
  refine ⟨⟨by rw [ne _ (by omega)]; exact hB, fr, by rw [g _ hru]; exact hF, fun i hi => ?_⟩, ⟨f1, by rw [ne _ (by omega)]; exact hN, hn⟩, ⟨f2, by rw [ne _ (by omega)]; exact hT, ht⟩, fun e => ?_, fun e => ?_, fun e => ?_, h0⟩
  · obtain ⟨a, e1, e2⟩ := hfr i hi
    have ha : a < 5 ∨ 27 ≤ a := by
      apply Classical.byContradiction
      intro z
      have := (no a (by omega) (by omega)).1
      rw [e2] at this
      exact this rfl
    exact ⟨a, e1, by rw [g _ ha]; exact e2⟩
  · obtain ⟨⟨g3, k3⟩, ⟨g4, k4⟩, ⟨g5, k5⟩, ⟨g6, k6⟩⟩ := hU e
    exact ⟨⟨g3, by rw [ne _ (by omega)]; exact k3⟩, ⟨g4, by rw [ne _ (by omega)]; exact k4⟩, ⟨g5, by rw [ne _ (by omega)]; exact k5⟩, ⟨g6, by rw [ne _ (by omega)]; exact k6⟩⟩
  · obtain ⟨⟨g3, k3⟩, ⟨g4, k4⟩, ⟨g5, k5⟩⟩ := hFo e
    exact ⟨⟨g3, by rw [ne _ (by omega)]; exact k3⟩, ⟨g4, by rw [ne _ (by omega)]; exact k4⟩, ⟨g5, by rw [ne _ (by omega)]; exact k5⟩⟩
  · obtain ⟨⟨g3, k3, k⟩, ⟨g4, k4⟩⟩ := hL e
    exact ⟨⟨g3, by rw [ne _ (by omega)]; exact k3, k⟩, ⟨g4, by rw [ne _ (by omega)]; exact k4⟩⟩
theorem XR.fr {h h' : sn_H} {μ : sn_S} (q : XR h μ) (g : ∀ i, (i < 5 ∨ 27 ≤ i) → h'[i]? = h[i]?) (no : ∀ i, 5 ≤ i → i < 27 → kdc h[i]? ≠ 102 ∧ kdc h[i]? ≠ 3) : XR h' μ := by
  obtain ⟨ws, fl, fb, ad, ru, cv, o1, o2, o3, o4, o5, o6, o7, o8⟩ := q
  refine ⟨ws, fl, fb, ad, ru, cv, by rw [g 1 (by omega)]; exact o1, by rw [g 2 (by omega)]; exact o2, by rw [g 3 (by omega)]; exact o3, ?_, ?_, fun l hl => ?_, fun k hk => ?_, o8⟩
  · obtain ⟨f, k⟩ := o4
    exact ⟨f, by rw [g 4 (by omega)]; exact k⟩
  · rcases o5 with e | ⟨c, e1, e2, e3, f, e4⟩
    · exact Or.inl e
    · exact Or.inr ⟨c, e1, e2, by rw [g c (Or.inr e2)]; exact e3, f, by rw [g (c + 1) (Or.inr (Nat.le_succ_of_le e2))]; exact e4⟩
  · obtain ⟨a, e1, e2⟩ := o6 l hl
    have ha : a < 5 ∨ 27 ≤ a := by
      apply Classical.byContradiction
      intro z
      have := (no a (by omega) (by omega)).1
      rw [e2] at this
      exact this rfl
    exact ⟨a, e1, by rw [g _ ha]; exact e2⟩
  · obtain ⟨e1, e2, e3⟩ := o7 k hk
    exact ⟨e1, e2, e3.fr e2 g no⟩
theorem hp_old {x : sn_X5} {A A' : sn_A2} {B B' : sn_B2} {t : sn_H} : ∀ i, (i < 5 ∨ 27 ≤ i) → (hp x A' B' t)[i]? = (hp x A B t)[i]? := by
  intro i hi
  by_cases h5 : i < 5
  · have h3 : i = 0 ∨ i = 1 ∨ i = 2 ∨ i = 3 ∨ i = 4 := by omega
    rcases h3 with rfl | rfl | rfl | rfl | rfl <;> rfl
  · obtain ⟨j, rfl⟩ : ∃ j, i = j + 27 := ⟨i - 27, by omega⟩
    rfl
theorem XR.toHp {x : sn_X5} {A : sn_A2} {B : sn_B2} {t : sn_H} {μ : sn_S} (q : XR (hp x A B t) μ) (A' : sn_A2) (B' : sn_B2) : XR (hp x A' B' t) μ := q.fr hp_old (fun _ h1 h2 => hp_kd h1 h2)
theorem XR.c1 {h : sn_H} {μ : sn_S} (q : XR h μ) : ∃ fs, h[1]? = some (.inr (0, fs)) := by
  obtain ⟨ws, fl, fb, ad, ru, cv, o⟩ := q
  exact ⟨_, o.1⟩
theorem LW.toHp {x : sn_X5} {A : sn_A2} {B : sn_B2} {t h' : sn_H} {μ : sn_S} (g : LW (hp x A B t) h') (q : XR h' μ) : ∃ x' t', h' = hp x' A B t' := by
  obtain ⟨ws, fl, fb, ad, ru, cv, o1, o2, o3, ⟨f4, o4⟩, _⟩ := q
  have hl : ∀ i, i < 27 → i < (hp x A B t).length := fun i hi => by rw [hp_len]; omega
  refine ⟨(x.1, .inr (0, [.ref 2, .int (nI (sw μ).1), .ref 3, .int (nI (snb μ)), .ref 4, cv]), .inl (3, 8, .inr (.inr (.inr (.inr fl)))), .inl (4, 8, .inr (.inr (.inr (.inr fb)))), .inl (1, 32, .inr (.inl f4))), h'.drop 27, ?_⟩
  apply List.ext_getElem?
  intro i
  by_cases h27 : i < 27
  · have h3 : i = 0 ∨ i = 1 ∨ i = 2 ∨ i = 3 ∨ i = 4 ∨ i = 5 ∨ i = 6 ∨ i = 7 ∨ i = 8 ∨ i = 9 ∨ i = 10 ∨ i = 11 ∨ i = 12 ∨ i = 13 ∨ i = 14 ∨ i = 15 ∨ i = 16 ∨ i = 17 ∨ i = 18 ∨ i = 19 ∨ i = 20 ∨ i = 21 ∨ i = 22 ∨ i = 23 ∨ i = 24 ∨ i = 25 ∨ i = 26 := by omega
    rcases h3 with rfl | rfl | rfl | rfl | rfl | rfl | rfl | rfl | rfl | rfl | rfl | rfl | rfl | rfl | rfl | rfl | rfl | rfl | rfl | rfl | rfl | rfl | rfl | rfl | rfl | rfl | rfl
    · exact (g 0 (Or.inl rfl) (hl 0 (by omega))).trans rfl
    · exact o1
    · exact o2
    · exact o3
    · exact o4
    · exact (g 5 (by omega) (hl 5 (by omega))).trans rfl
    · exact (g 6 (by omega) (hl 6 (by omega))).trans rfl
    · exact (g 7 (by omega) (hl 7 (by omega))).trans rfl
    · exact (g 8 (by omega) (hl 8 (by omega))).trans rfl
    · exact (g 9 (by omega) (hl 9 (by omega))).trans rfl
    · exact (g 10 (by omega) (hl 10 (by omega))).trans rfl
    · exact (g 11 (by omega) (hl 11 (by omega))).trans rfl
    · exact (g 12 (by omega) (hl 12 (by omega))).trans rfl
    · exact (g 13 (by omega) (hl 13 (by omega))).trans rfl
    · exact (g 14 (by omega) (hl 14 (by omega))).trans rfl
    · exact (g 15 (by omega) (hl 15 (by omega))).trans rfl
    · exact (g 16 (by omega) (hl 16 (by omega))).trans rfl
    · exact (g 17 (by omega) (hl 17 (by omega))).trans rfl
    · exact (g 18 (by omega) (hl 18 (by omega))).trans rfl
    · exact (g 19 (by omega) (hl 19 (by omega))).trans rfl
    · exact (g 20 (by omega) (hl 20 (by omega))).trans rfl
    · exact (g 21 (by omega) (hl 21 (by omega))).trans rfl
    · exact (g 22 (by omega) (hl 22 (by omega))).trans rfl
    · exact (g 23 (by omega) (hl 23 (by omega))).trans rfl
    · exact (g 24 (by omega) (hl 24 (by omega))).trans rfl
    · exact (g 25 (by omega) (hl 25 (by omega))).trans rfl
    · exact (g 26 (by omega) (hl 26 (by omega))).trans rfl
  · obtain ⟨j, rfl⟩ : ∃ j, i = j + 27 := ⟨i - 27, by omega⟩
    show h'[j + 27]? = (h'.drop 27)[j]?
    rw [List.getElem?_drop, Nat.add_comm]
theorem GB.toHp {h : sn_H} {x : sn_X5} {A : sn_A2} {B : sn_B2} {t : sn_H} (g : GB h (hp x A B t)) (A' : sn_A2) (B' : sn_B2) : GB h (hp x A' B' t) := g
def LI (h : sn_H) (μ : sn_S) : Prop := ∃ x A B t, h = hp x A B t ∧ XR h μ ∧ MS A B μ
set_option maxRecDepth 100000 in
theorem k_law {L : Nat} {xs : Nat → Int32} {i : Nat} (hi : i + 6 ≤ L) (hL : L ≤ 3072) {P : Option Value → sn_H → Prop} {x : sn_X5} {A : sn_A2} {B : sn_B2} {t : sn_H} {μ : sn_S} (q : XR (hp x A B t) μ) (m : MS A B μ) (C : ∀ h1 μ1, LI h1 μ1 → GB (hp x A B t) h1 → EvP (oL L xs) 21 me_Law 1208 [.ref 0, .ref 1, .ref 5, .int (nI i)] [] h1 P) : EvP (oL L xs) 21 me_Law 144 [.ref 0, .ref 1, .ref 5, .int (nI i)] [] (hp x A B t) P := by
  have h27 : 27 ≤ (hp x A B t).length := by rw [hp_len]; omega
  obtain ⟨fs0, hX⟩ := q.c1
  refine EvP.s (fun _ _ K => Ev.go 5 rfl K) ?_
  refine EvP.s (fun _ _ K => Ev.sld rfl (by rw [nI_add]) (by omega) (by omega) K) ?_
  refine EvP.s (fun _ _ K => Ev.go 4 rfl K) ?_
  refine EvP.s (fun _ _ K => Ev.sld rfl (by rw [nI_add]) (by omega) (by omega) K) ?_
  refine EvP.cvx (E' := me_X_law) rfl mk_X_law lv_11_13_0 rfl hX rfl (p_X_law 18 q _ _) (fun r h1 w => ⟨_, w.1⟩) (fun v h1 w => ?_)
  obtain ⟨er, q1, lw1, gb1⟩ := w
  obtain ⟨x1, t1, rfl⟩ := lw1.toHp q1
  obtain rfl := Option.some.inj er
  refine EvP.s (fun _ _ K => Ev.go 5 rfl K) ?_
  refine EvP.s (fun _ _ K => Ev.sld rfl (by rw [nI_add]) (by omega) (by omega) K) ?_
  refine EvP.s (fun _ _ K => Ev.go 4 rfl K) ?_
  refine EvP.s (fun _ _ K => Ev.sld rfl (by rw [nI_add]) (by omega) (by omega) K) ?_
  refine EvP.cvx (E' := me_M_law) rfl mk_M_law lv_11_17_1 rfl hp_5 rfl (p_M_law 19 x1 t1 m _ _) (fun r h1 w => by obtain ⟨_, _, _, w, _⟩ := w; exact ⟨_, w⟩) (fun v h1 w => ?_)
  obtain ⟨A2, B2, rfl, er2, m2⟩ := w
  obtain rfl := Option.some.inj er2
  refine EvP.s (fun _ _ K => Ev.bt rfl rfl rfl K) ?_
  exact C _ _ ⟨_, _, _, _, rfl, q1.toHp A2 B2, m2⟩ (gb1.toHp A2 B2)
set_option maxRecDepth 100000 in
theorem k_value {L : Nat} {xs : Nat → Int32} {i : Nat} (hi : i + 6 ≤ L) (hL : L ≤ 3072) {P : Option Value → sn_H → Prop} {x : sn_X5} {A : sn_A2} {B : sn_B2} {t : sn_H} {μ : sn_S} (q : XR (hp x A B t) μ) (m : MS A B μ) (C : ∀ h1 μ1, LI h1 μ1 → GB (hp x A B t) h1 → EvP (oL L xs) 21 me_Law 1208 [.ref 0, .ref 1, .ref 5, .int (nI i)] [] h1 P) : EvP (oL L xs) 21 me_Law 177 [.ref 0, .ref 1, .ref 5, .int (nI i)] [] (hp x A B t) P := by
  have h27 : 27 ≤ (hp x A B t).length := by rw [hp_len]; omega
  obtain ⟨fs0, hX⟩ := q.c1
  refine EvP.s (fun _ _ K => Ev.go 5 rfl K) ?_
  refine EvP.s (fun _ _ K => Ev.sld rfl (by rw [nI_add]) (by omega) (by omega) K) ?_
  refine EvP.s (fun _ _ K => Ev.go 4 rfl K) ?_
  refine EvP.s (fun _ _ K => Ev.sld rfl (by rw [nI_add]) (by omega) (by omega) K) ?_
  refine EvP.s (fun _ _ K => Ev.cv (E' := me_X_value) rfl mk_X_value lv_11_18_0 rfl hX rfl (p_X_value 19 q _ _) K) ?_
  refine EvP.s (fun _ _ K => Ev.go 5 rfl K) ?_
  refine EvP.s (fun _ _ K => Ev.sld rfl (by rw [nI_add]) (by omega) (by omega) K) ?_
  refine EvP.s (fun _ _ K => Ev.go 4 rfl K) ?_
  refine EvP.s (fun _ _ K => Ev.sld rfl (by rw [nI_add]) (by omega) (by omega) K) ?_
  refine EvP.s (fun _ _ K => Ev.cv (E' := me_M_value) rfl mk_M_value lv_11_21_1 rfl hp_5 rfl (p_M_value 18 x t m _ _) K) ?_
  refine EvP.s (fun _ _ K => Ev.bt rfl rfl rfl K) ?_
  exact C _ _ ⟨_, _, _, _, rfl, q, m⟩ (GB.refl _)
set_option maxRecDepth 100000 in
theorem k_odds {L : Nat} {xs : Nat → Int32} {i : Nat} (hi : i + 6 ≤ L) (hL : L ≤ 3072) {P : Option Value → sn_H → Prop} {x : sn_X5} {A : sn_A2} {B : sn_B2} {t : sn_H} {μ : sn_S} (q : XR (hp x A B t) μ) (m : MS A B μ) (C : ∀ h1 μ1, LI h1 μ1 → GB (hp x A B t) h1 → EvP (oL L xs) 21 me_Law 1208 [.ref 0, .ref 1, .ref 5, .int (nI i)] [] h1 P) : EvP (oL L xs) 21 me_Law 210 [.ref 0, .ref 1, .ref 5, .int (nI i)] [] (hp x A B t) P := by
  have h27 : 27 ≤ (hp x A B t).length := by rw [hp_len]; omega
  obtain ⟨fs0, hX⟩ := q.c1
  refine EvP.s (fun _ _ K => Ev.go 5 rfl K) ?_
  refine EvP.s (fun _ _ K => Ev.sld rfl (by rw [nI_add]) (by omega) (by omega) K) ?_
  refine EvP.s (fun _ _ K => Ev.go 7 rfl K) ?_
  refine EvP.s (fun _ _ K => Ev.sld rfl (by rw [nI_add]) (by omega) (by omega) K) ?_
  refine EvP.s (fun _ _ K => Ev.go 8 rfl K) ?_
  refine EvP.s (fun _ _ K => Ev.sld rfl (by rw [nI_add]) (by omega) (by omega) K) ?_
  refine EvP.s (fun _ _ K => Ev.go 4 rfl K) ?_
  refine EvP.s (fun _ _ K => Ev.sld rfl (by rw [nI_add]) (by omega) (by omega) K) ?_
  refine EvP.s (fun _ _ K => Ev.go 4 rfl K) ?_
  refine EvP.s (fun _ _ K => Ev.sld rfl (by rw [nI_add]) (by omega) (by omega) K) ?_
  refine EvP.s (fun _ _ K => Ev.cv (E' := me_X_odds) rfl mk_X_odds lv_11_24_0 rfl hX rfl (p_X_odds 17 _ _ _ _ _) K) ?_
  refine EvP.s (fun _ _ K => Ev.go 5 rfl K) ?_
  refine EvP.s (fun _ _ K => Ev.sld rfl (by rw [nI_add]) (by omega) (by omega) K) ?_
  refine EvP.s (fun _ _ K => Ev.go 7 rfl K) ?_
  refine EvP.s (fun _ _ K => Ev.sld rfl (by rw [nI_add]) (by omega) (by omega) K) ?_
  refine EvP.s (fun _ _ K => Ev.go 8 rfl K) ?_
  refine EvP.s (fun _ _ K => Ev.sld rfl (by rw [nI_add]) (by omega) (by omega) K) ?_
  refine EvP.s (fun _ _ K => Ev.go 4 rfl K) ?_
  refine EvP.s (fun _ _ K => Ev.sld rfl (by rw [nI_add]) (by omega) (by omega) K) ?_
  refine EvP.s (fun _ _ K => Ev.go 4 rfl K) ?_
  refine EvP.s (fun _ _ K => Ev.sld rfl (by rw [nI_add]) (by omega) (by omega) K) ?_
  refine EvP.s (fun _ _ K => Ev.cv (E' := me_M_odds) rfl mk_M_odds lv_11_28_1 rfl hp_5 rfl (p_M_odds 17 x A B t _ _ _ _) K) ?_
  refine EvP.s (fun _ _ K => Ev.bt rfl rfl rfl K) ?_
  exact C _ _ ⟨_, _, _, _, rfl, q, m⟩ (GB.refl _)
set_option maxRecDepth 100000 in
theorem k_best {L : Nat} {xs : Nat → Int32} {i : Nat} (hi : i + 6 ≤ L) (hL : L ≤ 3072) {P : Option Value → sn_H → Prop} {x : sn_X5} {A : sn_A2} {B : sn_B2} {t : sn_H} {μ : sn_S} (q : XR (hp x A B t) μ) (m : MS A B μ) (C : ∀ h1 μ1, LI h1 μ1 → GB (hp x A B t) h1 → EvP (oL L xs) 21 me_Law 1208 [.ref 0, .ref 1, .ref 5, .int (nI i)] [] h1 P) : EvP (oL L xs) 21 me_Law 293 [.ref 0, .ref 1, .ref 5, .int (nI i)] [] (hp x A B t) P := by
  have h27 : 27 ≤ (hp x A B t).length := by rw [hp_len]; omega
  obtain ⟨fs0, hX⟩ := q.c1
  refine EvP.s (fun _ _ K => Ev.go 5 rfl K) ?_
  refine EvP.s (fun _ _ K => Ev.sld rfl (by rw [nI_add]) (by omega) (by omega) K) ?_
  refine EvP.s (fun _ _ K => Ev.go 7 rfl K) ?_
  refine EvP.s (fun _ _ K => Ev.sld rfl (by rw [nI_add]) (by omega) (by omega) K) ?_
  refine EvP.s (fun _ _ K => Ev.go 8 rfl K) ?_
  refine EvP.s (fun _ _ K => Ev.sld rfl (by rw [nI_add]) (by omega) (by omega) K) ?_
  refine EvP.s (fun _ _ K => Ev.go 4 rfl K) ?_
  refine EvP.s (fun _ _ K => Ev.sld rfl (by rw [nI_add]) (by omega) (by omega) K) ?_
  refine EvP.s (fun _ _ K => Ev.cv (E' := me_X_best) rfl mk_X_best lv_11_29_0 rfl hX rfl (p_X_best 17 _ _ _ _) K) ?_
  refine EvP.s (fun _ _ K => Ev.go 5 rfl K) ?_
  refine EvP.s (fun _ _ K => Ev.sld rfl (by rw [nI_add]) (by omega) (by omega) K) ?_
  refine EvP.s (fun _ _ K => Ev.go 7 rfl K) ?_
  refine EvP.s (fun _ _ K => Ev.sld rfl (by rw [nI_add]) (by omega) (by omega) K) ?_
  refine EvP.s (fun _ _ K => Ev.go 8 rfl K) ?_
  refine EvP.s (fun _ _ K => Ev.sld rfl (by rw [nI_add]) (by omega) (by omega) K) ?_
  refine EvP.s (fun _ _ K => Ev.go 4 rfl K) ?_
  refine EvP.s (fun _ _ K => Ev.sld rfl (by rw [nI_add]) (by omega) (by omega) K) ?_
  refine EvP.s (fun _ _ K => Ev.cv (E' := me_M_best) rfl mk_M_best lv_11_33_1 rfl hp_5 rfl (p_M_best 17 x A B t _ _ _) K) ?_
  refine EvP.s (fun _ _ K => Ev.bt rfl rfl rfl K) ?_
  exact C _ _ ⟨_, _, _, _, rfl, q, m⟩ (GB.refl _)
set_option maxRecDepth 100000 in
theorem k_fewest {L : Nat} {xs : Nat → Int32} {i : Nat} (hi : i + 6 ≤ L) (hL : L ≤ 3072) {P : Option Value → sn_H → Prop} {x : sn_X5} {A : sn_A2} {B : sn_B2} {t : sn_H} {μ : sn_S} (q : XR (hp x A B t) μ) (m : MS A B μ) (C : ∀ h1 μ1, LI h1 μ1 → GB (hp x A B t) h1 → EvP (oL L xs) 21 me_Law 1208 [.ref 0, .ref 1, .ref 5, .int (nI i)] [] h1 P) : EvP (oL L xs) 21 me_Law 366 [.ref 0, .ref 1, .ref 5, .int (nI i)] [] (hp x A B t) P := by
  have h27 : 27 ≤ (hp x A B t).length := by rw [hp_len]; omega
  obtain ⟨fs0, hX⟩ := q.c1
  refine EvP.s (fun _ _ K => Ev.go 5 rfl K) ?_
  refine EvP.s (fun _ _ K => Ev.sld rfl (by rw [nI_add]) (by omega) (by omega) K) ?_
  refine EvP.s (fun _ _ K => Ev.go 7 rfl K) ?_
  refine EvP.s (fun _ _ K => Ev.sld rfl (by rw [nI_add]) (by omega) (by omega) K) ?_
  refine EvP.s (fun _ _ K => Ev.go 8 rfl K) ?_
  refine EvP.s (fun _ _ K => Ev.sld rfl (by rw [nI_add]) (by omega) (by omega) K) ?_
  refine EvP.s (fun _ _ K => Ev.go 4 rfl K) ?_
  refine EvP.s (fun _ _ K => Ev.sld rfl (by rw [nI_add]) (by omega) (by omega) K) ?_
  refine EvP.s (fun _ _ K => Ev.cv (E' := me_X_fewest) rfl mk_X_fewest lv_11_34_0 rfl hX rfl (p_X_fewest 17 q _ _ _) K) ?_
  refine EvP.s (fun _ _ K => Ev.go 5 rfl K) ?_
  refine EvP.s (fun _ _ K => Ev.sld rfl (by rw [nI_add]) (by omega) (by omega) K) ?_
  refine EvP.s (fun _ _ K => Ev.go 7 rfl K) ?_
  refine EvP.s (fun _ _ K => Ev.sld rfl (by rw [nI_add]) (by omega) (by omega) K) ?_
  refine EvP.s (fun _ _ K => Ev.go 8 rfl K) ?_
  refine EvP.s (fun _ _ K => Ev.sld rfl (by rw [nI_add]) (by omega) (by omega) K) ?_
  refine EvP.s (fun _ _ K => Ev.go 4 rfl K) ?_
  refine EvP.s (fun _ _ K => Ev.sld rfl (by rw [nI_add]) (by omega) (by omega) K) ?_
  refine EvP.s (fun _ _ K => Ev.cv (E' := me_M_fewest) rfl mk_M_fewest lv_11_37_1 rfl hp_5 rfl (p_M_fewest 17 x t m _ _ _) K) ?_
  refine EvP.s (fun _ _ K => Ev.bt rfl rfl rfl K) ?_
  exact C _ _ ⟨_, _, _, _, rfl, q, m⟩ (GB.refl _)
set_option maxRecDepth 100000 in
theorem k_book {L : Nat} {xs : Nat → Int32} {i : Nat} (hi : i + 6 ≤ L) (hL : L ≤ 3072) {P : Option Value → sn_H → Prop} {x : sn_X5} {A : sn_A2} {B : sn_B2} {t : sn_H} {μ : sn_S} (q : XR (hp x A B t) μ) (m : MS A B μ) (C : ∀ h1 μ1, LI h1 μ1 → GB (hp x A B t) h1 → EvP (oL L xs) 21 me_Law 1208 [.ref 0, .ref 1, .ref 5, .int (nI i)] [] h1 P) : EvP (oL L xs) 21 me_Law 439 [.ref 0, .ref 1, .ref 5, .int (nI i)] [] (hp x A B t) P := by
  have h27 : 27 ≤ (hp x A B t).length := by rw [hp_len]; omega
  obtain ⟨fs0, hX⟩ := q.c1
  refine EvP.s (fun _ _ K => Ev.go 5 rfl K) ?_
  refine EvP.s (fun _ _ K => Ev.sld rfl (by rw [nI_add]) (by omega) (by omega) K) ?_
  refine EvP.s (fun _ _ K => Ev.go 4 rfl K) ?_
  refine EvP.s (fun _ _ K => Ev.sld rfl (by rw [nI_add]) (by omega) (by omega) K) ?_
  refine EvP.s (fun _ _ K => Ev.go 4 rfl K) ?_
  refine EvP.s (fun _ _ K => Ev.sld rfl (by rw [nI_add]) (by omega) (by omega) K) ?_
  refine EvP.cvx (E' := me_X_book) rfl mk_X_book lv_11_38_0 rfl hX rfl (p_X_book 14 q h27 _ _ _) (fun r h1 w => ⟨_, w.1⟩) (fun v h1 w => ?_)
  obtain ⟨er, q1, lw1, gb1⟩ := w
  obtain ⟨x1, t1, rfl⟩ := lw1.toHp q1
  obtain rfl := Option.some.inj er
  refine EvP.s (fun _ _ K => Ev.go 5 rfl K) ?_
  refine EvP.s (fun _ _ K => Ev.sld rfl (by rw [nI_add]) (by omega) (by omega) K) ?_
  refine EvP.s (fun _ _ K => Ev.go 4 rfl K) ?_
  refine EvP.s (fun _ _ K => Ev.sld rfl (by rw [nI_add]) (by omega) (by omega) K) ?_
  refine EvP.s (fun _ _ K => Ev.go 4 rfl K) ?_
  refine EvP.s (fun _ _ K => Ev.sld rfl (by rw [nI_add]) (by omega) (by omega) K) ?_
  refine EvP.cvx (E' := me_M_book) rfl mk_M_book lv_11_42_1 rfl hp_5 rfl (p_M_book 18 x1 t1 m _ _ _) (fun r h1 w => by obtain ⟨_, _, _, w, _⟩ := w; exact ⟨_, w⟩) (fun v h1 w => ?_)
  obtain ⟨A2, B2, rfl, er2, m2⟩ := w
  obtain rfl := Option.some.inj er2
  refine EvP.s (fun _ _ K => Ev.bt rfl rfl rfl K) ?_
  exact C _ _ ⟨_, _, _, _, rfl, q1.toHp A2 B2, m2⟩ (gb1.toHp A2 B2)
set_option maxRecDepth 100000 in
theorem k_as {L : Nat} {xs : Nat → Int32} {i : Nat} (hi : i + 6 ≤ L) (hL : L ≤ 3072) {P : Option Value → sn_H → Prop} {x : sn_X5} {A : sn_A2} {B : sn_B2} {t : sn_H} {μ : sn_S} (q : XR (hp x A B t) μ) (m : MS A B μ) (C : ∀ h1 μ1, LI h1 μ1 → GB (hp x A B t) h1 → EvP (oL L xs) 21 me_Law 1208 [.ref 0, .ref 1, .ref 5, .int (nI i)] [] h1 P) : EvP (oL L xs) 21 me_Law 482 [.ref 0, .ref 1, .ref 5, .int (nI i)] [] (hp x A B t) P := by
  have h27 : 27 ≤ (hp x A B t).length := by rw [hp_len]; omega
  obtain ⟨fs0, hX⟩ := q.c1
  refine EvP.s (fun _ _ K => Ev.go 5 rfl K) ?_
  refine EvP.s (fun _ _ K => Ev.sld rfl (by rw [nI_add]) (by omega) (by omega) K) ?_
  refine EvP.s (fun _ _ K => Ev.go 4 rfl K) ?_
  refine EvP.s (fun _ _ K => Ev.sld rfl (by rw [nI_add]) (by omega) (by omega) K) ?_
  refine EvP.s (fun _ _ K => Ev.cv (E' := me_X_as) rfl mk_X_as lv_11_43_0 rfl hX rfl (p_X_as 19 q _ _) K) ?_
  refine EvP.s (fun _ _ K => Ev.go 5 rfl K) ?_
  refine EvP.s (fun _ _ K => Ev.sld rfl (by rw [nI_add]) (by omega) (by omega) K) ?_
  refine EvP.s (fun _ _ K => Ev.go 4 rfl K) ?_
  refine EvP.s (fun _ _ K => Ev.sld rfl (by rw [nI_add]) (by omega) (by omega) K) ?_
  refine EvP.s (fun _ _ K => Ev.cv (E' := me_M_as) rfl mk_M_as lv_11_46_1 rfl hp_5 rfl (p_M_as 18 x t m _ _) K) ?_
  refine EvP.s (fun _ _ K => Ev.bt rfl rfl rfl K) ?_
  exact C _ _ ⟨_, _, _, _, rfl, q, m⟩ (GB.refl _)
set_option maxRecDepth 100000 in
theorem k_about {L : Nat} {xs : Nat → Int32} {i : Nat} (hi : i + 6 ≤ L) (hL : L ≤ 3072) {P : Option Value → sn_H → Prop} {x : sn_X5} {A : sn_A2} {B : sn_B2} {t : sn_H} {μ : sn_S} (q : XR (hp x A B t) μ) (m : MS A B μ) (C : ∀ h1 μ1, LI h1 μ1 → GB (hp x A B t) h1 → EvP (oL L xs) 21 me_Law 1208 [.ref 0, .ref 1, .ref 5, .int (nI i)] [] h1 P) : EvP (oL L xs) 21 me_Law 515 [.ref 0, .ref 1, .ref 5, .int (nI i)] [] (hp x A B t) P := by
  have h27 : 27 ≤ (hp x A B t).length := by rw [hp_len]; omega
  obtain ⟨fs0, hX⟩ := q.c1
  refine EvP.s (fun _ _ K => Ev.go 5 rfl K) ?_
  refine EvP.s (fun _ _ K => Ev.sld rfl (by rw [nI_add]) (by omega) (by omega) K) ?_
  refine EvP.s (fun _ _ K => Ev.go 4 rfl K) ?_
  refine EvP.s (fun _ _ K => Ev.sld rfl (by rw [nI_add]) (by omega) (by omega) K) ?_
  refine EvP.s (fun _ _ K => Ev.cv (E' := me_X_about) rfl mk_X_about lv_11_47_0 rfl hX rfl (p_X_about 19 q _ _) K) ?_
  refine EvP.s (fun _ _ K => Ev.go 5 rfl K) ?_
  refine EvP.s (fun _ _ K => Ev.sld rfl (by rw [nI_add]) (by omega) (by omega) K) ?_
  refine EvP.s (fun _ _ K => Ev.go 4 rfl K) ?_
  refine EvP.s (fun _ _ K => Ev.sld rfl (by rw [nI_add]) (by omega) (by omega) K) ?_
  refine EvP.s (fun _ _ K => Ev.cv (E' := me_M_about) rfl mk_M_about lv_11_50_1 rfl hp_5 rfl (p_M_about 18 x t m _ _) K) ?_
  refine EvP.s (fun _ _ K => Ev.bt rfl rfl rfl K) ?_
  exact C _ _ ⟨_, _, _, _, rfl, q, m⟩ (GB.refl _)
set_option maxRecDepth 100000 in
theorem k_at {L : Nat} {xs : Nat → Int32} {i : Nat} (hi : i + 6 ≤ L) (hL : L ≤ 3072) {P : Option Value → sn_H → Prop} {x : sn_X5} {A : sn_A2} {B : sn_B2} {t : sn_H} {μ : sn_S} (q : XR (hp x A B t) μ) (m : MS A B μ) (C : ∀ h1 μ1, LI h1 μ1 → GB (hp x A B t) h1 → EvP (oL L xs) 21 me_Law 1208 [.ref 0, .ref 1, .ref 5, .int (nI i)] [] h1 P) : EvP (oL L xs) 21 me_Law 548 [.ref 0, .ref 1, .ref 5, .int (nI i)] [] (hp x A B t) P := by
  have h27 : 27 ≤ (hp x A B t).length := by rw [hp_len]; omega
  obtain ⟨fs0, hX⟩ := q.c1
  refine EvP.s (fun _ _ K => Ev.go 5 rfl K) ?_
  refine EvP.s (fun _ _ K => Ev.sld rfl (by rw [nI_add]) (by omega) (by omega) K) ?_
  refine EvP.s (fun _ _ K => Ev.go 4 rfl K) ?_
  refine EvP.s (fun _ _ K => Ev.sld rfl (by rw [nI_add]) (by omega) (by omega) K) ?_
  refine EvP.s (fun _ _ K => Ev.cv (E' := me_X_at) rfl mk_X_at lv_11_51_0 rfl hX rfl (p_X_at 19 q _ _) K) ?_
  refine EvP.s (fun _ _ K => Ev.go 5 rfl K) ?_
  refine EvP.s (fun _ _ K => Ev.sld rfl (by rw [nI_add]) (by omega) (by omega) K) ?_
  refine EvP.s (fun _ _ K => Ev.go 4 rfl K) ?_
  refine EvP.s (fun _ _ K => Ev.sld rfl (by rw [nI_add]) (by omega) (by omega) K) ?_
  refine EvP.s (fun _ _ K => Ev.cv (E' := me_M_at) rfl mk_M_at lv_11_54_1 rfl hp_5 rfl (p_M_at 18 x t m _ _) K) ?_
  refine EvP.s (fun _ _ K => Ev.bt rfl rfl rfl K) ?_
  exact C _ _ ⟨_, _, _, _, rfl, q, m⟩ (GB.refl _)
set_option maxRecDepth 100000 in
theorem k_row {L : Nat} {xs : Nat → Int32} {i : Nat} (hi : i + 6 ≤ L) (hL : L ≤ 3072) {P : Option Value → sn_H → Prop} {x : sn_X5} {A : sn_A2} {B : sn_B2} {t : sn_H} {μ : sn_S} (q : XR (hp x A B t) μ) (m : MS A B μ) (C : ∀ h1 μ1, LI h1 μ1 → GB (hp x A B t) h1 → EvP (oL L xs) 21 me_Law 1208 [.ref 0, .ref 1, .ref 5, .int (nI i)] [] h1 P) : EvP (oL L xs) 21 me_Law 581 [.ref 0, .ref 1, .ref 5, .int (nI i)] [] (hp x A B t) P := by
  have h27 : 27 ≤ (hp x A B t).length := by rw [hp_len]; omega
  obtain ⟨fs0, hX⟩ := q.c1
  refine EvP.s (fun _ _ K => Ev.go 5 rfl K) ?_
  refine EvP.s (fun _ _ K => Ev.sld rfl (by rw [nI_add]) (by omega) (by omega) K) ?_
  refine EvP.s (fun _ _ K => Ev.go 4 rfl K) ?_
  refine EvP.s (fun _ _ K => Ev.sld rfl (by rw [nI_add]) (by omega) (by omega) K) ?_
  refine EvP.s (fun _ _ K => Ev.cv (E' := me_X_row) rfl mk_X_row lv_11_55_0 rfl hX rfl (p_X_row 19 q _ _) K) ?_
  refine EvP.s (fun _ _ K => Ev.go 5 rfl K) ?_
  refine EvP.s (fun _ _ K => Ev.sld rfl (by rw [nI_add]) (by omega) (by omega) K) ?_
  refine EvP.s (fun _ _ K => Ev.go 4 rfl K) ?_
  refine EvP.s (fun _ _ K => Ev.sld rfl (by rw [nI_add]) (by omega) (by omega) K) ?_
  refine EvP.s (fun _ _ K => Ev.cv (E' := me_M_row) rfl mk_M_row lv_11_59_1 rfl hp_5 rfl (p_M_row 18 x t m _ _) K) ?_
  refine EvP.req rfl rfl (fun _ => ?_) (fun c => absurd rfl c)
  exact C _ _ ⟨_, _, _, _, rfl, q, m⟩ (GB.refl _)
set_option maxRecDepth 100000 in
theorem k_places {L : Nat} {xs : Nat → Int32} {i : Nat} (hi : i + 6 ≤ L) (hL : L ≤ 3072) {P : Option Value → sn_H → Prop} {x : sn_X5} {A : sn_A2} {B : sn_B2} {t : sn_H} {μ : sn_S} (q : XR (hp x A B t) μ) (m : MS A B μ) (C : ∀ h1 μ1, LI h1 μ1 → GB (hp x A B t) h1 → EvP (oL L xs) 21 me_Law 1208 [.ref 0, .ref 1, .ref 5, .int (nI i)] [] h1 P) : EvP (oL L xs) 21 me_Law 615 [.ref 0, .ref 1, .ref 5, .int (nI i)] [] (hp x A B t) P := by
  have h27 : 27 ≤ (hp x A B t).length := by rw [hp_len]; omega
  obtain ⟨fs0, hX⟩ := q.c1
  refine EvP.s (fun _ _ K => Ev.go 5 rfl K) ?_
  refine EvP.s (fun _ _ K => Ev.sld rfl (by rw [nI_add]) (by omega) (by omega) K) ?_
  refine EvP.s (fun _ _ K => Ev.go 4 rfl K) ?_
  refine EvP.s (fun _ _ K => Ev.sld rfl (by rw [nI_add]) (by omega) (by omega) K) ?_
  refine EvP.s (fun _ _ K => Ev.cv (E' := me_X_places) rfl mk_X_places lv_11_60_0 rfl hX rfl (p_X_places 17 q _ _) K) ?_
  refine EvP.s (fun _ _ K => Ev.go 5 rfl K) ?_
  refine EvP.s (fun _ _ K => Ev.sld rfl (by rw [nI_add]) (by omega) (by omega) K) ?_
  refine EvP.s (fun _ _ K => Ev.go 4 rfl K) ?_
  refine EvP.s (fun _ _ K => Ev.sld rfl (by rw [nI_add]) (by omega) (by omega) K) ?_
  refine EvP.s (fun _ _ K => Ev.cv (E' := me_M_places) rfl mk_M_places lv_11_63_1 rfl hp_5 rfl (p_M_places 17 x t m _ _) K) ?_
  refine EvP.req rfl rfl (fun _ => ?_) (fun c => absurd rfl c)
  exact C _ _ ⟨_, _, _, _, rfl, q, m⟩ (GB.refl _)
set_option maxRecDepth 100000 in
theorem k_put {L : Nat} {xs : Nat → Int32} {i : Nat} (hi : i + 6 ≤ L) (hL : L ≤ 3072) {P : Option Value → sn_H → Prop} {x : sn_X5} {A : sn_A2} {B : sn_B2} {t : sn_H} {μ : sn_S} (q : XR (hp x A B t) μ) (m : MS A B μ) (C : ∀ h1 μ1, LI h1 μ1 → GB (hp x A B t) h1 → EvP (oL L xs) 21 me_Law 1208 [.ref 0, .ref 1, .ref 5, .int (nI i)] [] h1 P) : EvP (oL L xs) 21 me_Law 649 [.ref 0, .ref 1, .ref 5, .int (nI i)] [] (hp x A B t) P := by
  have h27 : 27 ≤ (hp x A B t).length := by rw [hp_len]; omega
  obtain ⟨fs0, hX⟩ := q.c1
  refine EvP.s (fun _ _ K => Ev.go 5 rfl K) ?_
  refine EvP.s (fun _ _ K => Ev.sld rfl (by rw [nI_add]) (by omega) (by omega) K) ?_
  refine EvP.s (fun _ _ K => Ev.go 4 rfl K) ?_
  refine EvP.s (fun _ _ K => Ev.sld rfl (by rw [nI_add]) (by omega) (by omega) K) ?_
  refine EvP.cvx (E' := me_X_put) rfl mk_X_put lv_11_64_0 rfl hX rfl (p_X_put 16 q _ _) (fun r h1 w => ⟨_, w.1⟩) (fun v h1 w => ?_)
  obtain ⟨er, q1, lw1, gb1⟩ := w
  obtain ⟨x1, t1, rfl⟩ := lw1.toHp q1
  obtain rfl := Option.some.inj er
  refine EvP.s (fun _ _ K => Ev.go 5 rfl K) ?_
  refine EvP.s (fun _ _ K => Ev.sld rfl (by rw [nI_add]) (by omega) (by omega) K) ?_
  refine EvP.s (fun _ _ K => Ev.go 4 rfl K) ?_
  refine EvP.s (fun _ _ K => Ev.sld rfl (by rw [nI_add]) (by omega) (by omega) K) ?_
  refine EvP.cvx (E' := me_M_put) rfl mk_M_put lv_11_67_1 rfl hp_5 rfl (p_M_put 16 x1 t1 m _ _) (fun r h1 w => by obtain ⟨_, _, _, w, _⟩ := w; exact ⟨_, w⟩) (fun v h1 w => ?_)
  obtain ⟨A2, B2, rfl, er2, m2⟩ := w
  obtain rfl := Option.some.inj er2
  refine EvP.s (fun _ _ K => Ev.bt rfl rfl rfl K) ?_
  exact C _ _ ⟨_, _, _, _, rfl, q1.toHp A2 B2, m2⟩ (gb1.toHp A2 B2)
set_option maxRecDepth 100000 in
theorem k_take {L : Nat} {xs : Nat → Int32} {i : Nat} (hi : i + 6 ≤ L) (hL : L ≤ 3072) {P : Option Value → sn_H → Prop} {x : sn_X5} {A : sn_A2} {B : sn_B2} {t : sn_H} {μ : sn_S} (q : XR (hp x A B t) μ) (m : MS A B μ) (C : ∀ h1 μ1, LI h1 μ1 → GB (hp x A B t) h1 → EvP (oL L xs) 21 me_Law 1208 [.ref 0, .ref 1, .ref 5, .int (nI i)] [] h1 P) : EvP (oL L xs) 21 me_Law 682 [.ref 0, .ref 1, .ref 5, .int (nI i)] [] (hp x A B t) P := by
  have h27 : 27 ≤ (hp x A B t).length := by rw [hp_len]; omega
  obtain ⟨fs0, hX⟩ := q.c1
  refine EvP.s (fun _ _ K => Ev.go 5 rfl K) ?_
  refine EvP.s (fun _ _ K => Ev.sld rfl (by rw [nI_add]) (by omega) (by omega) K) ?_
  refine EvP.s (fun _ _ K => Ev.go 4 rfl K) ?_
  refine EvP.s (fun _ _ K => Ev.sld rfl (by rw [nI_add]) (by omega) (by omega) K) ?_
  refine EvP.cvx (E' := me_X_take) rfl mk_X_take lv_11_68_0 rfl hX rfl (p_X_take 16 q _ _) (fun r h1 w => ⟨_, w.1⟩) (fun v h1 w => ?_)
  obtain ⟨er, q1, lw1, gb1⟩ := w
  obtain ⟨x1, t1, rfl⟩ := lw1.toHp q1
  obtain rfl := Option.some.inj er
  refine EvP.s (fun _ _ K => Ev.go 5 rfl K) ?_
  refine EvP.s (fun _ _ K => Ev.sld rfl (by rw [nI_add]) (by omega) (by omega) K) ?_
  refine EvP.s (fun _ _ K => Ev.go 4 rfl K) ?_
  refine EvP.s (fun _ _ K => Ev.sld rfl (by rw [nI_add]) (by omega) (by omega) K) ?_
  refine EvP.cvx (E' := me_M_take) rfl mk_M_take lv_11_71_1 rfl hp_5 rfl (p_M_take 16 x1 t1 m _ _) (fun r h1 w => by obtain ⟨_, _, _, w, _⟩ := w; exact ⟨_, w⟩) (fun v h1 w => ?_)
  obtain ⟨A2, B2, rfl, er2, m2⟩ := w
  obtain rfl := Option.some.inj er2
  refine EvP.s (fun _ _ K => Ev.bt rfl rfl rfl K) ?_
  exact C _ _ ⟨_, _, _, _, rfl, q1.toHp A2 B2, m2⟩ (gb1.toHp A2 B2)
set_option maxRecDepth 100000 in
theorem k_build {L : Nat} {xs : Nat → Int32} {i : Nat} (hi : i + 6 ≤ L) (hL : L ≤ 3072) {P : Option Value → sn_H → Prop} {x : sn_X5} {A : sn_A2} {B : sn_B2} {t : sn_H} {μ : sn_S} (q : XR (hp x A B t) μ) (m : MS A B μ) (C : ∀ h1 μ1, LI h1 μ1 → GB (hp x A B t) h1 → EvP (oL L xs) 21 me_Law 1208 [.ref 0, .ref 1, .ref 5, .int (nI i)] [] h1 P) : EvP (oL L xs) 21 me_Law 715 [.ref 0, .ref 1, .ref 5, .int (nI i)] [] (hp x A B t) P := by
  have h27 : 27 ≤ (hp x A B t).length := by rw [hp_len]; omega
  obtain ⟨fs0, hX⟩ := q.c1
  refine EvP.s (fun _ _ K => Ev.go 5 rfl K) ?_
  refine EvP.s (fun _ _ K => Ev.sld rfl (by rw [nI_add]) (by omega) (by omega) K) ?_
  refine EvP.s (fun _ _ K => Ev.go 4 rfl K) ?_
  refine EvP.s (fun _ _ K => Ev.sld rfl (by rw [nI_add]) (by omega) (by omega) K) ?_
  refine EvP.s (fun _ _ K => Ev.go 7 rfl K) ?_
  refine EvP.s (fun _ _ K => Ev.sld rfl (by rw [nI_add]) (by omega) (by omega) K) ?_
  refine EvP.s (fun _ _ K => Ev.go 8 rfl K) ?_
  refine EvP.s (fun _ _ K => Ev.sld rfl (by rw [nI_add]) (by omega) (by omega) K) ?_
  refine EvP.s (fun _ _ K => Ev.go 7 rfl K) ?_
  refine EvP.s (fun _ _ K => Ev.sld rfl (by rw [nI_add]) (by omega) (by omega) K) ?_
  refine EvP.s (fun _ _ K => Ev.go 4 rfl K) ?_
  refine EvP.cvx (E' := me_X_build) rfl mk_X_build lv_11_72_0 rfl hX rfl (p_X_build 16 q _ _ _) (fun r h1 w => ⟨_, w.1⟩) (fun v h1 w => ?_)
  obtain ⟨er, q1, lw1, gb1⟩ := w
  obtain ⟨x1, t1, rfl⟩ := lw1.toHp q1
  obtain rfl := Option.some.inj er
  refine EvP.s (fun _ _ K => Ev.go 5 rfl K) ?_
  refine EvP.s (fun _ _ K => Ev.sld rfl (by rw [nI_add]) (by omega) (by omega) K) ?_
  refine EvP.s (fun _ _ K => Ev.go 4 rfl K) ?_
  refine EvP.s (fun _ _ K => Ev.sld rfl (by rw [nI_add]) (by omega) (by omega) K) ?_
  refine EvP.s (fun _ _ K => Ev.go 7 rfl K) ?_
  refine EvP.s (fun _ _ K => Ev.sld rfl (by rw [nI_add]) (by omega) (by omega) K) ?_
  refine EvP.s (fun _ _ K => Ev.go 8 rfl K) ?_
  refine EvP.s (fun _ _ K => Ev.sld rfl (by rw [nI_add]) (by omega) (by omega) K) ?_
  refine EvP.s (fun _ _ K => Ev.go 7 rfl K) ?_
  refine EvP.s (fun _ _ K => Ev.sld rfl (by rw [nI_add]) (by omega) (by omega) K) ?_
  refine EvP.s (fun _ _ K => Ev.go 4 rfl K) ?_
  refine EvP.cvx (E' := me_M_build) rfl mk_M_build lv_11_76_1 rfl hp_5 rfl (p_M_build 15 x1 t1 m _ _ _) (fun r h1 w => by obtain ⟨_, _, _, w, _⟩ := w; exact ⟨_, w⟩) (fun v h1 w => ?_)
  obtain ⟨A2, B2, rfl, er2, m2⟩ := w
  obtain rfl := Option.some.inj er2
  refine EvP.s (fun _ _ K => Ev.bt rfl rfl rfl K) ?_
  exact C _ _ ⟨_, _, _, _, rfl, q1.toHp A2 B2, m2⟩ (gb1.toHp A2 B2)
set_option maxRecDepth 100000 in
theorem k_real {L : Nat} {xs : Nat → Int32} {i : Nat} (hi : i + 6 ≤ L) (hL : L ≤ 3072) {P : Option Value → sn_H → Prop} {x : sn_X5} {A : sn_A2} {B : sn_B2} {t : sn_H} {μ : sn_S} (q : XR (hp x A B t) μ) (m : MS A B μ) (C : ∀ h1 μ1, LI h1 μ1 → GB (hp x A B t) h1 → EvP (oL L xs) 21 me_Law 1208 [.ref 0, .ref 1, .ref 5, .int (nI i)] [] h1 P) : EvP (oL L xs) 21 me_Law 818 [.ref 0, .ref 1, .ref 5, .int (nI i)] [] (hp x A B t) P := by
  have h27 : 27 ≤ (hp x A B t).length := by rw [hp_len]; omega
  obtain ⟨fs0, hX⟩ := q.c1
  refine EvP.s (fun _ _ K => Ev.go 5 rfl K) ?_
  refine EvP.s (fun _ _ K => Ev.sld rfl (by rw [nI_add]) (by omega) (by omega) K) ?_
  refine EvP.s (fun _ _ K => Ev.go 4 rfl K) ?_
  refine EvP.s (fun _ _ K => Ev.sld rfl (by rw [nI_add]) (by omega) (by omega) K) ?_
  refine EvP.s (fun _ _ K => Ev.cv (E' := me_X_real) rfl mk_X_real lv_11_77_0 rfl hX rfl (p_X_real 19 q _ _) K) ?_
  refine EvP.s (fun _ _ K => Ev.go 5 rfl K) ?_
  refine EvP.s (fun _ _ K => Ev.sld rfl (by rw [nI_add]) (by omega) (by omega) K) ?_
  refine EvP.s (fun _ _ K => Ev.go 4 rfl K) ?_
  refine EvP.s (fun _ _ K => Ev.sld rfl (by rw [nI_add]) (by omega) (by omega) K) ?_
  refine EvP.s (fun _ _ K => Ev.cv (E' := me_M_real) rfl mk_M_real lv_11_80_1 rfl hp_5 rfl (p_M_real 18 x t m _ _) K) ?_
  refine EvP.s (fun _ _ K => Ev.bt rfl rfl rfl K) ?_
  exact C _ _ ⟨_, _, _, _, rfl, q, m⟩ (GB.refl _)
set_option maxRecDepth 100000 in
theorem k_keys {L : Nat} {xs : Nat → Int32} {i : Nat} (hi : i + 6 ≤ L) (hL : L ≤ 3072) {P : Option Value → sn_H → Prop} {x : sn_X5} {A : sn_A2} {B : sn_B2} {t : sn_H} {μ : sn_S} (q : XR (hp x A B t) μ) (m : MS A B μ) (C : ∀ h1 μ1, LI h1 μ1 → GB (hp x A B t) h1 → EvP (oL L xs) 21 me_Law 1208 [.ref 0, .ref 1, .ref 5, .int (nI i)] [] h1 P) : EvP (oL L xs) 21 me_Law 851 [.ref 0, .ref 1, .ref 5, .int (nI i)] [] (hp x A B t) P := by
  have h27 : 27 ≤ (hp x A B t).length := by rw [hp_len]; omega
  obtain ⟨fs0, hX⟩ := q.c1
  refine EvP.s (fun _ _ K => Ev.go 5 rfl K) ?_
  refine EvP.s (fun _ _ K => Ev.sld rfl (by rw [nI_add]) (by omega) (by omega) K) ?_
  refine EvP.s (fun _ _ K => Ev.go 4 rfl K) ?_
  refine EvP.s (fun _ _ K => Ev.sld rfl (by rw [nI_add]) (by omega) (by omega) K) ?_
  refine EvP.s (fun _ _ K => Ev.cv (E' := me_X_keys) rfl mk_X_keys lv_11_81_0 rfl hX rfl (p_X_keys 15 q _ _) K) ?_
  refine EvP.s (fun _ _ K => Ev.go 5 rfl K) ?_
  refine EvP.s (fun _ _ K => Ev.sld rfl (by rw [nI_add]) (by omega) (by omega) K) ?_
  refine EvP.s (fun _ _ K => Ev.go 4 rfl K) ?_
  refine EvP.s (fun _ _ K => Ev.sld rfl (by rw [nI_add]) (by omega) (by omega) K) ?_
  refine EvP.s (fun _ _ K => Ev.cv (E' := me_M_keys) rfl mk_M_keys lv_11_84_1 rfl hp_5 rfl (p_M_keys 14 x t m _ _) K) ?_
  refine EvP.req rfl rfl (fun _ => ?_) (fun c => absurd rfl c)
  exact C _ _ ⟨_, _, _, _, rfl, q, m⟩ (GB.refl _)
set_option maxRecDepth 100000 in
theorem k_join {L : Nat} {xs : Nat → Int32} {i : Nat} (hi : i + 6 ≤ L) (hL : L ≤ 3072) {P : Option Value → sn_H → Prop} {x : sn_X5} {A : sn_A2} {B : sn_B2} {t : sn_H} {μ : sn_S} (q : XR (hp x A B t) μ) (m : MS A B μ) (C : ∀ h1 μ1, LI h1 μ1 → GB (hp x A B t) h1 → EvP (oL L xs) 21 me_Law 1208 [.ref 0, .ref 1, .ref 5, .int (nI i)] [] h1 P) : EvP (oL L xs) 21 me_Law 885 [.ref 0, .ref 1, .ref 5, .int (nI i)] [] (hp x A B t) P := by
  have h27 : 27 ≤ (hp x A B t).length := by rw [hp_len]; omega
  obtain ⟨fs0, hX⟩ := q.c1
  by_cases hz : xs (i + 3) = 0
  · refine EvP.s (fun _ _ K => Ev.go 5 rfl K) ?_
    refine EvP.s (fun _ _ K => Ev.sld rfl (by rw [nI_add]) (by omega) (by omega) K) ?_
    refine EvP.s (fun _ _ K => Ev.go 4 rfl K) ?_
    refine EvP.s (fun _ _ K => Ev.sld rfl (by rw [nI_add]) (by omega) (by omega) K) ?_
    refine EvP.s (fun _ _ K => Ev.go 4 rfl K) ?_
    refine EvP.s (fun _ _ K => Ev.sld rfl (by rw [nI_add]) (by omega) (by omega) K) ?_
    refine EvP.s (fun _ _ K => Ev.bt rfl rfl hz K) ?_
    refine EvP.s (fun _ _ K => Ev.go 1 rfl K) ?_
    refine EvP.cvx (E' := me_X_join) rfl mk_X_join lv_11_85_0 rfl hX rfl (p_X_join 14 q h27 _ _ false) (fun r h1 w => ⟨_, w.1⟩) (fun v h1 w => ?_)
    obtain ⟨er, q1, lw1, gb1⟩ := w
    obtain ⟨x1, t1, rfl⟩ := lw1.toHp q1
    obtain rfl := Option.some.inj er
    refine EvP.s (fun _ _ K => Ev.go 5 rfl K) ?_
    refine EvP.s (fun _ _ K => Ev.sld rfl (by rw [nI_add]) (by omega) (by omega) K) ?_
    refine EvP.s (fun _ _ K => Ev.go 4 rfl K) ?_
    refine EvP.s (fun _ _ K => Ev.sld rfl (by rw [nI_add]) (by omega) (by omega) K) ?_
    refine EvP.s (fun _ _ K => Ev.go 4 rfl K) ?_
    refine EvP.s (fun _ _ K => Ev.sld rfl (by rw [nI_add]) (by omega) (by omega) K) ?_
    refine EvP.s (fun _ _ K => Ev.bt rfl rfl hz K) ?_
    refine EvP.s (fun _ _ K => Ev.go 1 rfl K) ?_
    refine EvP.cvx (E' := me_M_join) rfl mk_M_join lv_11_89_1 rfl hp_5 rfl (p_M_join 18 x1 t1 m _ _ false) (fun r h1 w => by obtain ⟨_, _, _, w, _⟩ := w; exact ⟨_, w⟩) (fun v h1 w => ?_)
    obtain ⟨A2, B2, rfl, er2, m2⟩ := w
    obtain rfl := Option.some.inj er2
    refine EvP.s (fun _ _ K => Ev.bt rfl rfl rfl K) ?_
    exact C _ _ ⟨_, _, _, _, rfl, q1.toHp A2 B2, m2⟩ (gb1.toHp A2 B2)
  · refine EvP.s (fun _ _ K => Ev.go 5 rfl K) ?_
    refine EvP.s (fun _ _ K => Ev.sld rfl (by rw [nI_add]) (by omega) (by omega) K) ?_
    refine EvP.s (fun _ _ K => Ev.go 4 rfl K) ?_
    refine EvP.s (fun _ _ K => Ev.sld rfl (by rw [nI_add]) (by omega) (by omega) K) ?_
    refine EvP.s (fun _ _ K => Ev.go 4 rfl K) ?_
    refine EvP.s (fun _ _ K => Ev.sld rfl (by rw [nI_add]) (by omega) (by omega) K) ?_
    refine EvP.s (fun _ _ K => Ev.bf rfl rfl hz K) ?_
    refine EvP.s (fun _ _ K => Ev.go 2 rfl K) ?_
    refine EvP.cvx (E' := me_X_join) rfl mk_X_join lv_11_85_0 rfl hX rfl (p_X_join 14 q h27 _ _ true) (fun r h1 w => ⟨_, w.1⟩) (fun v h1 w => ?_)
    obtain ⟨er, q1, lw1, gb1⟩ := w
    obtain ⟨x1, t1, rfl⟩ := lw1.toHp q1
    obtain rfl := Option.some.inj er
    refine EvP.s (fun _ _ K => Ev.go 5 rfl K) ?_
    refine EvP.s (fun _ _ K => Ev.sld rfl (by rw [nI_add]) (by omega) (by omega) K) ?_
    refine EvP.s (fun _ _ K => Ev.go 4 rfl K) ?_
    refine EvP.s (fun _ _ K => Ev.sld rfl (by rw [nI_add]) (by omega) (by omega) K) ?_
    refine EvP.s (fun _ _ K => Ev.go 4 rfl K) ?_
    refine EvP.s (fun _ _ K => Ev.sld rfl (by rw [nI_add]) (by omega) (by omega) K) ?_
    refine EvP.s (fun _ _ K => Ev.bf rfl rfl hz K) ?_
    refine EvP.s (fun _ _ K => Ev.go 2 rfl K) ?_
    refine EvP.cvx (E' := me_M_join) rfl mk_M_join lv_11_89_1 rfl hp_5 rfl (p_M_join 18 x1 t1 m _ _ true) (fun r h1 w => by obtain ⟨_, _, _, w, _⟩ := w; exact ⟨_, w⟩) (fun v h1 w => ?_)
    obtain ⟨A2, B2, rfl, er2, m2⟩ := w
    obtain rfl := Option.some.inj er2
    refine EvP.s (fun _ _ K => Ev.bt rfl rfl rfl K) ?_
    exact C _ _ ⟨_, _, _, _, rfl, q1.toHp A2 B2, m2⟩ (gb1.toHp A2 B2)
set_option maxRecDepth 100000 in
theorem k_halve {L : Nat} {xs : Nat → Int32} {i : Nat} (hi : i + 6 ≤ L) (hL : L ≤ 3072) {P : Option Value → sn_H → Prop} {x : sn_X5} {A : sn_A2} {B : sn_B2} {t : sn_H} {μ : sn_S} (q : XR (hp x A B t) μ) (m : MS A B μ) (C : ∀ h1 μ1, LI h1 μ1 → GB (hp x A B t) h1 → EvP (oL L xs) 21 me_Law 1208 [.ref 0, .ref 1, .ref 5, .int (nI i)] [] h1 P) : EvP (oL L xs) 21 me_Law 944 [.ref 0, .ref 1, .ref 5, .int (nI i)] [] (hp x A B t) P := by
  have h27 : 27 ≤ (hp x A B t).length := by rw [hp_len]; omega
  obtain ⟨fs0, hX⟩ := q.c1
  refine EvP.s (fun _ _ K => Ev.go 5 rfl K) ?_
  refine EvP.s (fun _ _ K => Ev.sld rfl (by rw [nI_add]) (by omega) (by omega) K) ?_
  refine EvP.cvx (E' := me_X_halve) rfl mk_X_halve lv_11_90_0 rfl hX rfl (p_X_halve 14 q h27 _) (fun r h1 w => ⟨_, w.1⟩) (fun v h1 w => ?_)
  obtain ⟨er, q1, lw1, gb1⟩ := w
  obtain ⟨x1, t1, rfl⟩ := lw1.toHp q1
  obtain rfl := Option.some.inj er
  refine EvP.s (fun _ _ K => Ev.go 5 rfl K) ?_
  refine EvP.s (fun _ _ K => Ev.sld rfl (by rw [nI_add]) (by omega) (by omega) K) ?_
  refine EvP.cvx (E' := me_M_halve) rfl mk_M_halve lv_11_94_1 rfl hp_5 rfl (p_M_halve 18 x1 t1 m _) (fun r h1 w => by obtain ⟨_, _, _, w, _⟩ := w; exact ⟨_, w⟩) (fun v h1 w => ?_)
  obtain ⟨A2, B2, rfl, er2, m2⟩ := w
  obtain rfl := Option.some.inj er2
  refine EvP.s (fun _ _ K => Ev.bt rfl rfl rfl K) ?_
  exact C _ _ ⟨_, _, _, _, rfl, q1.toHp A2 B2, m2⟩ (gb1.toHp A2 B2)
set_option maxRecDepth 100000 in
theorem k_spoil {L : Nat} {xs : Nat → Int32} {i : Nat} (hi : i + 6 ≤ L) (hL : L ≤ 3072) {P : Option Value → sn_H → Prop} {x : sn_X5} {A : sn_A2} {B : sn_B2} {t : sn_H} {μ : sn_S} (q : XR (hp x A B t) μ) (m : MS A B μ) (C : ∀ h1 μ1, LI h1 μ1 → GB (hp x A B t) h1 → EvP (oL L xs) 21 me_Law 1208 [.ref 0, .ref 1, .ref 5, .int (nI i)] [] h1 P) : EvP (oL L xs) 21 me_Law 967 [.ref 0, .ref 1, .ref 5, .int (nI i)] [] (hp x A B t) P := by
  have h27 : 27 ≤ (hp x A B t).length := by rw [hp_len]; omega
  obtain ⟨fs0, hX⟩ := q.c1
  refine EvP.s (fun _ _ K => Ev.go 5 rfl K) ?_
  refine EvP.s (fun _ _ K => Ev.sld rfl (by rw [nI_add]) (by omega) (by omega) K) ?_
  refine EvP.s (fun _ _ K => Ev.go 4 rfl K) ?_
  refine EvP.s (fun _ _ K => Ev.sld rfl (by rw [nI_add]) (by omega) (by omega) K) ?_
  refine EvP.cvx (E' := me_X_spoil) rfl mk_X_spoil lv_11_95_0 rfl hX rfl (p_X_spoil 16 q _ _) (fun r h1 w => ⟨_, w.1⟩) (fun v h1 w => ?_)
  obtain ⟨er, q1, lw1, gb1⟩ := w
  obtain ⟨x1, t1, rfl⟩ := lw1.toHp q1
  obtain rfl := Option.some.inj er
  refine EvP.s (fun _ _ K => Ev.go 5 rfl K) ?_
  refine EvP.s (fun _ _ K => Ev.sld rfl (by rw [nI_add]) (by omega) (by omega) K) ?_
  refine EvP.s (fun _ _ K => Ev.go 4 rfl K) ?_
  refine EvP.s (fun _ _ K => Ev.sld rfl (by rw [nI_add]) (by omega) (by omega) K) ?_
  refine EvP.cvx (E' := me_M_spoil) rfl mk_M_spoil lv_11_98_1 rfl hp_5 rfl (p_M_spoil 16 x1 t1 m _ _) (fun r h1 w => by obtain ⟨_, _, _, w, _⟩ := w; exact ⟨_, w⟩) (fun v h1 w => ?_)
  obtain ⟨A2, B2, rfl, er2, m2⟩ := w
  obtain rfl := Option.some.inj er2
  refine EvP.req rfl rfl (fun _ => ?_) (fun c => absurd rfl c)
  exact C _ _ ⟨_, _, _, _, rfl, q1.toHp A2 B2, m2⟩ (gb1.toHp A2 B2)
set_option maxRecDepth 100000 in
theorem k_made {L : Nat} {xs : Nat → Int32} {i : Nat} (hi : i + 6 ≤ L) (hL : L ≤ 3072) {P : Option Value → sn_H → Prop} {x : sn_X5} {A : sn_A2} {B : sn_B2} {t : sn_H} {μ : sn_S} (q : XR (hp x A B t) μ) (m : MS A B μ) (C : ∀ h1 μ1, LI h1 μ1 → GB (hp x A B t) h1 → EvP (oL L xs) 21 me_Law 1208 [.ref 0, .ref 1, .ref 5, .int (nI i)] [] h1 P) : EvP (oL L xs) 21 me_Law 1001 [.ref 0, .ref 1, .ref 5, .int (nI i)] [] (hp x A B t) P := by
  have h27 : 27 ≤ (hp x A B t).length := by rw [hp_len]; omega
  obtain ⟨fs0, hX⟩ := q.c1
  refine EvP.s (fun _ _ K => Ev.go 5 rfl K) ?_
  refine EvP.s (fun _ _ K => Ev.sld rfl (by rw [nI_add]) (by omega) (by omega) K) ?_
  refine EvP.s (fun _ _ K => Ev.go 4 rfl K) ?_
  refine EvP.s (fun _ _ K => Ev.sld rfl (by rw [nI_add]) (by omega) (by omega) K) ?_
  refine EvP.cvx (E' := me_X_made) rfl mk_X_made lv_11_99_0 rfl hX rfl (p_X_made 16 q h27 _ _) (fun r h1 w => ⟨_, w.1⟩) (fun v h1 w => ?_)
  obtain ⟨er, q1, lw1, gb1⟩ := w
  obtain ⟨x1, t1, rfl⟩ := lw1.toHp q1
  obtain rfl := Option.some.inj er
  refine EvP.s (fun _ _ K => Ev.go 5 rfl K) ?_
  refine EvP.s (fun _ _ K => Ev.sld rfl (by rw [nI_add]) (by omega) (by omega) K) ?_
  refine EvP.s (fun _ _ K => Ev.go 4 rfl K) ?_
  refine EvP.s (fun _ _ K => Ev.sld rfl (by rw [nI_add]) (by omega) (by omega) K) ?_
  refine EvP.cvx (E' := me_M_made) rfl mk_M_made lv_11_102_1 rfl hp_5 rfl (p_M_made 16 x1 t1 m _ _) (fun r h1 w => by obtain ⟨_, _, _, w, _⟩ := w; exact ⟨_, w⟩) (fun v h1 w => ?_)
  obtain ⟨A2, B2, rfl, er2, m2⟩ := w
  obtain rfl := Option.some.inj er2
  refine EvP.req rfl rfl (fun _ => ?_) (fun c => absurd rfl c)
  exact C _ _ ⟨_, _, _, _, rfl, q1.toHp A2 B2, m2⟩ (gb1.toHp A2 B2)
set_option maxRecDepth 100000 in
theorem k_order {L : Nat} {xs : Nat → Int32} {i : Nat} (hi : i + 6 ≤ L) (hL : L ≤ 3072) {P : Option Value → sn_H → Prop} {x : sn_X5} {A : sn_A2} {B : sn_B2} {t : sn_H} {μ : sn_S} (q : XR (hp x A B t) μ) (m : MS A B μ) (C : ∀ h1 μ1, LI h1 μ1 → GB (hp x A B t) h1 → EvP (oL L xs) 21 me_Law 1208 [.ref 0, .ref 1, .ref 5, .int (nI i)] [] h1 P) : EvP (oL L xs) 21 me_Law 1035 [.ref 0, .ref 1, .ref 5, .int (nI i)] [] (hp x A B t) P := by
  have h27 : 27 ≤ (hp x A B t).length := by rw [hp_len]; omega
  obtain ⟨fs0, hX⟩ := q.c1
  refine EvP.s (fun _ _ K => Ev.go 5 rfl K) ?_
  refine EvP.s (fun _ _ K => Ev.sld rfl (by rw [nI_add]) (by omega) (by omega) K) ?_
  refine EvP.s (fun _ _ K => Ev.go 4 rfl K) ?_
  refine EvP.s (fun _ _ K => Ev.sld rfl (by rw [nI_add]) (by omega) (by omega) K) ?_
  refine EvP.s (fun _ _ K => Ev.go 7 rfl K) ?_
  refine EvP.s (fun _ _ K => Ev.sld rfl (by rw [nI_add]) (by omega) (by omega) K) ?_
  refine EvP.s (fun _ _ K => Ev.go 8 rfl K) ?_
  refine EvP.s (fun _ _ K => Ev.sld rfl (by rw [nI_add]) (by omega) (by omega) K) ?_
  refine EvP.cvx (E' := me_X_order) rfl mk_X_order lv_11_103_0 rfl hX rfl (p_X_order 15 q _ _ _) (fun r h1 w => ⟨_, w.1⟩) (fun v h1 w => ?_)
  obtain ⟨er, q1, lw1, gb1⟩ := w
  obtain ⟨x1, t1, rfl⟩ := lw1.toHp q1
  obtain rfl := Option.some.inj er
  refine EvP.s (fun _ _ K => Ev.go 5 rfl K) ?_
  refine EvP.s (fun _ _ K => Ev.sld rfl (by rw [nI_add]) (by omega) (by omega) K) ?_
  refine EvP.s (fun _ _ K => Ev.go 4 rfl K) ?_
  refine EvP.s (fun _ _ K => Ev.sld rfl (by rw [nI_add]) (by omega) (by omega) K) ?_
  refine EvP.s (fun _ _ K => Ev.go 7 rfl K) ?_
  refine EvP.s (fun _ _ K => Ev.sld rfl (by rw [nI_add]) (by omega) (by omega) K) ?_
  refine EvP.s (fun _ _ K => Ev.go 8 rfl K) ?_
  refine EvP.s (fun _ _ K => Ev.sld rfl (by rw [nI_add]) (by omega) (by omega) K) ?_
  refine EvP.cvx (E' := me_M_order) rfl mk_M_order lv_11_107_1 rfl hp_5 rfl (p_M_order 16 x1 t1 m _ _ _) (fun r h1 w => by obtain ⟨_, _, _, w, _⟩ := w; exact ⟨_, w⟩) (fun v h1 w => ?_)
  obtain ⟨A2, B2, rfl, er2, m2⟩ := w
  obtain rfl := Option.some.inj er2
  refine EvP.s (fun _ _ K => Ev.bt rfl rfl rfl K) ?_
  exact C _ _ ⟨_, _, _, _, rfl, q1.toHp A2 B2, m2⟩ (gb1.toHp A2 B2)
set_option maxRecDepth 100000 in
theorem k_most {L : Nat} {xs : Nat → Int32} {i : Nat} (hi : i + 6 ≤ L) (hL : L ≤ 3072) {P : Option Value → sn_H → Prop} {x : sn_X5} {A : sn_A2} {B : sn_B2} {t : sn_H} {μ : sn_S} (q : XR (hp x A B t) μ) (m : MS A B μ) (C : ∀ h1 μ1, LI h1 μ1 → GB (hp x A B t) h1 → EvP (oL L xs) 21 me_Law 1208 [.ref 0, .ref 1, .ref 5, .int (nI i)] [] h1 P) : EvP (oL L xs) 21 me_Law 1108 [.ref 0, .ref 1, .ref 5, .int (nI i)] [] (hp x A B t) P := by
  have h27 : 27 ≤ (hp x A B t).length := by rw [hp_len]; omega
  obtain ⟨fs0, hX⟩ := q.c1
  refine EvP.s (fun _ _ K => Ev.go 5 rfl K) ?_
  refine EvP.s (fun _ _ K => Ev.sld rfl (by rw [nI_add]) (by omega) (by omega) K) ?_
  refine EvP.s (fun _ _ K => Ev.go 4 rfl K) ?_
  refine EvP.s (fun _ _ K => Ev.sld rfl (by rw [nI_add]) (by omega) (by omega) K) ?_
  refine EvP.s (fun _ _ K => Ev.go 7 rfl K) ?_
  refine EvP.s (fun _ _ K => Ev.sld rfl (by rw [nI_add]) (by omega) (by omega) K) ?_
  refine EvP.s (fun _ _ K => Ev.go 4 rfl K) ?_
  refine EvP.cvx (E' := me_X_most) rfl mk_X_most lv_11_108_0 rfl hX rfl (p_X_most 16 q _ _) (fun r h1 w => ⟨_, w.1⟩) (fun v h1 w => ?_)
  obtain ⟨er, q1, lw1, gb1⟩ := w
  obtain ⟨x1, t1, rfl⟩ := lw1.toHp q1
  obtain rfl := Option.some.inj er
  refine EvP.s (fun _ _ K => Ev.go 5 rfl K) ?_
  refine EvP.s (fun _ _ K => Ev.sld rfl (by rw [nI_add]) (by omega) (by omega) K) ?_
  refine EvP.s (fun _ _ K => Ev.go 4 rfl K) ?_
  refine EvP.s (fun _ _ K => Ev.sld rfl (by rw [nI_add]) (by omega) (by omega) K) ?_
  refine EvP.s (fun _ _ K => Ev.go 7 rfl K) ?_
  refine EvP.s (fun _ _ K => Ev.sld rfl (by rw [nI_add]) (by omega) (by omega) K) ?_
  refine EvP.s (fun _ _ K => Ev.go 4 rfl K) ?_
  refine EvP.cvx (E' := me_M_most) rfl mk_M_most lv_11_112_1 rfl hp_5 rfl (p_M_most 17 x1 t1 m _ _) (fun r h1 w => by obtain ⟨_, _, _, w, _⟩ := w; exact ⟨_, w⟩) (fun v h1 w => ?_)
  obtain ⟨A2, B2, rfl, er2, m2⟩ := w
  obtain rfl := Option.some.inj er2
  refine EvP.s (fun _ _ K => Ev.bt rfl rfl rfl K) ?_
  exact C _ _ ⟨_, _, _, _, rfl, q1.toHp A2 B2, m2⟩ (gb1.toHp A2 B2)
set_option maxRecDepth 100000 in
theorem k_count {L : Nat} {xs : Nat → Int32} {i : Nat} (hi : i + 6 ≤ L) (hL : L ≤ 3072) {P : Option Value → sn_H → Prop} {x : sn_X5} {A : sn_A2} {B : sn_B2} {t : sn_H} {μ : sn_S} (q : XR (hp x A B t) μ) (m : MS A B μ) (C : ∀ h1 μ1, LI h1 μ1 → GB (hp x A B t) h1 → EvP (oL L xs) 21 me_Law 1208 [.ref 0, .ref 1, .ref 5, .int (nI i)] [] h1 P) : EvP (oL L xs) 21 me_Law 1171 [.ref 0, .ref 1, .ref 5, .int (nI i)] [] (hp x A B t) P := by
  have h27 : 27 ≤ (hp x A B t).length := by rw [hp_len]; omega
  obtain ⟨fs0, hX⟩ := q.c1
  refine EvP.s (fun _ _ K => Ev.go 5 rfl K) ?_
  refine EvP.s (fun _ _ K => Ev.sld rfl (by rw [nI_add]) (by omega) (by omega) K) ?_
  refine EvP.s (fun _ _ K => Ev.cv (E' := me_X_count) rfl mk_X_count lv_11_113_0 rfl hX rfl (p_X_count 14 q _) K) ?_
  refine EvP.s (fun _ _ K => Ev.go 5 rfl K) ?_
  refine EvP.s (fun _ _ K => Ev.sld rfl (by rw [nI_add]) (by omega) (by omega) K) ?_
  refine EvP.s (fun _ _ K => Ev.cv (E' := me_M_count) rfl mk_M_count lv_11_116_1 rfl hp_5 rfl (p_M_count 14 x t m _) K) ?_
  refine EvP.s (fun _ _ K => Ev.bt rfl rfl rfl K) ?_
  exact C _ _ ⟨_, _, _, _, rfl, q, m⟩ (GB.refl _)
set_option maxRecDepth 100000 in
theorem k_digest {L : Nat} {xs : Nat → Int32} {i : Nat} (hi : i + 6 ≤ L) (hL : L ≤ 3072) {P : Option Value → sn_H → Prop} {x : sn_X5} {A : sn_A2} {B : sn_B2} {t : sn_H} {μ : sn_S} (q : XR (hp x A B t) μ) (m : MS A B μ) (C : ∀ h1 μ1, LI h1 μ1 → GB (hp x A B t) h1 → EvP (oL L xs) 21 me_Law 1208 [.ref 0, .ref 1, .ref 5, .int (nI i)] [] h1 P) : EvP (oL L xs) 21 me_Law 1194 [.ref 0, .ref 1, .ref 5, .int (nI i)] [] (hp x A B t) P := by
  have h27 : 27 ≤ (hp x A B t).length := by rw [hp_len]; omega
  obtain ⟨fs0, hX⟩ := q.c1
  refine EvP.s (fun _ _ K => Ev.go 1 rfl K) ?_
  refine EvP.s (fun _ _ K => Ev.cv (E' := me_X_digest) rfl mk_X_digest lv_11_117_0 rfl hX rfl (p_X_digest 13 q) K) ?_
  refine EvP.s (fun _ _ K => Ev.go 1 rfl K) ?_
  refine EvP.cvx (E' := me_M_digest) rfl mk_M_digest lv_11_121_1 rfl hp_5 rfl (p_M_digest 14 x t m) (fun r h1 w => by obtain ⟨_, _, _, w, _⟩ := w; exact ⟨_, w⟩) (fun v h1 w => ?_)
  obtain ⟨A2, B2, rfl, er2, m2⟩ := w
  obtain rfl := Option.some.inj er2
  refine EvP.req rfl rfl (fun _ => ?_) (fun c => absurd rfl c)
  exact C _ _ ⟨_, _, _, _, rfl, q.toHp A2 B2, m2⟩ ((GB.refl _).toHp A2 B2)
