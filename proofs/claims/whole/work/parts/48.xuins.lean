/-! THE CLASS: insert of a Pushed -/
theorem e_U_insert (d : Nat) {h : sn_H} {w : sn_Lw} {b : sn_Bk} {ad ru : Nat} (hw : WL w) (hb : WB w.1 b) (hR : BR h w b ad ru) {y : Nat} {yv : Int32} (e1 : yv = nI y) (hy : y < 32) (h3 : bk b = 3) : SpP (d + 3) me_U_insert [.ref ad, .int yv] h (PI h w b ad ru (psh (bm b) (bn b) (frs w b y) (mrk w b 1 y)).isSome ((psh (bm b) (bn b) (frs w b y) (mrk w b 1 y)).getD (bn b))) := by
  subst e1
  have hm := hb.2.1
  have e7 : bln b = 7 := if_pos h3
  have hbx : bex b ad = [.ref (ad + 3), .ref (ad + 4), .ref (ad + 5), .ref (ad + 6)] := if_pos h3
  obtain ⟨fn, hN, hn⟩ := id hR.2.1
  obtain ⟨⟨fb, hBf⟩, _⟩ := id (hR.2.2.2.1 h3)
  have hB := hR.1.1
  rw [h3, hbx] at hB
  generalize hz : psh (bm b) (bn b) (frs w b y) (mrk w b 1 y) = z
  refine SpP.of ok_U_insert (fun r h' z => z.rc) rfl ?_
  refine EvP.s (fun _ _ K => Ev.go 1 rfl K) ?_
  refine EvP.s (fun _ _ K => Ev.gf rfl lf_6_54_6 hB rfl K) ?_
  refine EvP.s (fun _ _ K => Ev.go 2 rfl K) ?_
  refine EvP.s (fun _ _ K => Ev.gf rfl lf_6_9_6 hB rfl K) ?_
  refine EvP.s (fun _ _ K => Ev.go 2 rfl K) ?_
  refine EvP.s (fun _ _ K => Ev.gf rfl lf_6_28_6 hB rfl K) ?_
  refine EvP.s (fun _ _ K => Ev.ki rfl la_6_57 hN hBf rfl (by omega) (by omega) (by omega) rfl K) ?_
  have hR1 := hR.before h3 (va_cpy fn fb 0 0 (bm b))
  have cell3 : (h.set (ad + 3) (.inl (0, 32, .inl (va_cpy fn fb 0 0 (bm b)))))[ad + 3]? = some (.inl (0, 32, .inl (va_cpy fn fb 0 0 (bm b)))) := List.getElem?_set_self (cell_lt hBf)
  have hA1 : AG h (h.set (ad + 3) (.inl (0, 32, .inl (va_cpy fn fb 0 0 (bm b))))) ad (bln b) := AG.set h _ (by omega) (by omega)
  have hN1 : (h.set (ad + 3) (.inl (0, 32, .inl (va_cpy fn fb 0 0 (bm b)))))[ad + 1]? = some (.inl (0, 32, .inl fn)) := by rw [List.getElem?_set_ne (by omega)]; exact hN
  generalize h.set (ad + 3) (.inl (0, 32, .inl (va_cpy fn fb 0 0 (bm b)))) = h1 at hR1 cell3 hA1 hN1 ⊢
  have hB := hR1.1.1
  rw [h3, hbx] at hB
  have hN := hN1
  obtain ⟨r2, h2, sp2, er, hA2, f', g', ha', hf', hz', h7', hs'⟩ := e_U_pushInto d hw hb hR1.1 h3 hN1 hn hb.2.2.2.2.2.2.2.1 rfl hy
  rw [hz] at er hs'
  subst er
  have hA3 : AG h h2 ad (bln b) := hA1.trans (hA2.mono (by omega) (by omega))
  refine EvP.s (fun _ _ K => Ev.go 2 rfl K) ?_
  refine EvP.s (fun _ _ K => Ev.gf rfl lf_6_54_6 hB rfl K) ?_
  refine EvP.s (fun _ _ K => Ev.go 1 rfl K) ?_
  refine EvP.s (fun _ _ K => Ev.cv (E' := me_U_pushInto) rfl mk_U_pushInto lv_6_63_6 rfl hB rfl (sp2) K) ?_
  refine EvP.zb rfl rfl (fun c26 => ?_) (fun c26 => ?_)
  · have hO2 := hR1.1.agI hN1 hA2
    have hB := hO2.1
    rw [h3, hbx] at hB
    have hN := ha'
    have hBf : h2[ad + 3]? = some (.inl (0, 32, .inl (va_cpy fn fb 0 0 (bm b)))) := by rw [hA2.2 _ (by omega)]; exact cell3
    refine EvP.s (fun _ _ K => Ev.go 1 rfl K) ?_
    refine EvP.s (fun _ _ K => Ev.gf rfl lf_6_9_6 hB rfl K) ?_
    refine EvP.s (fun _ _ K => Ev.go 2 rfl K) ?_
    refine EvP.s (fun _ _ K => Ev.gf rfl lf_6_54_6 hB rfl K) ?_
    refine EvP.s (fun _ _ K => Ev.go 2 rfl K) ?_
    refine EvP.s (fun _ _ K => Ev.gf rfl lf_6_28_6 hB rfl K) ?_
    refine EvP.s (fun _ _ K => Ev.ki rfl la_6_57 hBf hN rfl (by omega) (by omega) (by omega) rfl K) ?_
    refine EvP.s (fun _ _ K => Ev.go 1 rfl K) ?_
    refine ⟨_, _, Ev.reti rfl rfl, ?_⟩
    have ez : z = none := by cases z; rfl; cases c26
    subst ez
    refine ⟨rfl, hA3.trans (AG.set h2 _ (by omega) (by omega)), ?_⟩
    refine hR1.row1 (hA2.trans (AG.set h2 _ (by omega) (by omega))) (List.getElem?_set_self (cell_lt ha')) (fun i hi => ?_)
    unfold va_cpy
    by_cases e : i < bm b
    · rw [if_pos ⟨Nat.zero_le _, by omega⟩, show 0 + (i - 0) = i by omega, if_pos ⟨Nat.zero_le _, by omega⟩, show 0 + (i - 0) = i by omega]
      exact hn i hi
    · rw [if_neg (fun z => by omega), hf' i hi, hz' i (by omega)]; rfl
  refine EvP.s (fun _ _ K => Ev.go 1 rfl K) ?_
  refine ⟨_, _, Ev.reti rfl rfl, ?_⟩
  obtain ⟨g1, rfl⟩ : ∃ g1, z = some g1 := Option.isSome_iff_exists.mp c26
  refine ⟨rfl, hA3, ?_⟩
  have eg := hs' g1 rfl
  subst eg
  exact hR1.row1 hA2 ha' hf'
