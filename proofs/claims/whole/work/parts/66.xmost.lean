/-! THE CLASS: most -/
def PGr (h : sn_H) (ad m : Nat) (g : Nat → Nat) (r : Option Value) (h' : sn_H) : Prop := r = none ∧ AG h h' (ad + 6) 1 ∧ ∃ f : Nat → Int32, h'[ad + 6]? = some (.inl (0, 32, .inl f)) ∧ ∀ i, i < m → f i = nI (g i)
theorem PGr.rc {h : sn_H} {ad m : Nat} {g : Nat → Nat} {r : Option Value} {h' : sn_H} (q : PGr h ad m g r h') : sn_rc none r := by
  obtain ⟨rfl, _⟩ := q; trivial
theorem e_U_renameGroup (d : Nat) {h : sn_H} {w : sn_Lw} {b : sn_Bk} {ad ru : Nat} (hw : WL w) (hb : WB w.1 b) (h3 : bk b = 3) (hO : BO h w b ad ru (bex b ad)) {f0 : Nat → Int32} (hG0 : h[ad + 6]? = some (.inl (0, 32, .inl f0))) {g : Nat → Nat} (hf0 : ∀ j, j < bm b → f0 j = nI (g j)) (hg : ∀ j, j < bm b → g j < bm b) {a c : Nat} {av cv : Int32} (e1 : av = nI a) (e2 : cv = nI c) (ha : a < 32) : SpP d me_U_renameGroup [.ref ad, .int av, .int cv] h (PGr h ad (bm b) (fun j => if g j = a then c else g j)) := by
  subst e1; subst e2
  have hbx : bex b ad = [.ref (ad + 3), .ref (ad + 4), .ref (ad + 5), .ref (ad + 6)] := if_pos h3
  have hm := hb.2.1
  refine SpP.of ok_U_renameGroup (fun r h' z => z.rc) rfl ?_
  have L : ∀ (n : Nat) (h1 : sn_H) (f : Nat → Int32) (i : Nat) (iv : Int32), (i + n = bm b) → (AG h h1 (ad + 6) 1) → (h1[ad + 6]? = some (.inl (0, 32, .inl f))) → (∀ j, j < bm b → f j = nI (if j < i ∧ g j = a then c else g j)) → (iv = nI i) → EvP o0 d me_U_renameGroup 2 [.ref ad, .int (nI a), .int (nI c), .int iv] [] h1 (PGr h ad (bm b) (fun j => if g j = a then c else g j)) := by
    intro n
    induction n using Nat.strongRecOn with
    | _ n ih =>
      intro h1 f i iv k1 hA hG hf e3
      subst e3
      have hO1 := hO.agI hG0 hA
      have hB := hO1.1
      rw [h3, hbx] at hB
      refine EvP.s (fun _ _ K => Ev.go 2 rfl K) ?_
      refine EvP.s (fun _ _ K => Ev.gf rfl lf_6_28_6 hB rfl K) ?_
      refine EvP.ige rfl rfl rfl (by omega) (by omega) (fun c7 => ?_) (fun c7 => ?_)
      · refine ⟨_, _, Ev.retv rfl, ?_⟩
        refine ⟨rfl, hA, f, hG, fun j hj => ?_⟩
        rw [hf j hj]
        congr 1
        show _ = if g j = a then c else g j
        by_cases e2 : g j = a
        · rw [if_pos ⟨by omega, e2⟩, if_pos e2]
        · rw [if_neg (fun z => e2 z.2), if_neg e2]
      refine EvP.s (fun _ _ K => Ev.go 1 rfl K) ?_
      refine EvP.s (fun _ _ K => Ev.gf rfl lf_6_21_6 hB rfl K) ?_
      refine EvP.s (fun _ _ K => Ev.go 1 rfl K) ?_
      refine EvP.s (fun _ _ K => Ev.iln rfl hG rfl (by omega) (by omega) K) ?_
      rw [hf i (by omega), if_neg (fun z => by omega)]
      refine EvP.s (fun _ _ K => Ev.go 1 rfl K) ?_
      refine EvP.ine rfl rfl rfl (by have := hg i (by omega); omega) (by omega) (fun c17 => ?_) (fun c17 => ?_)
      · refine EvP.s (fun _ _ K => Ev.go 2 rfl K) ?_
        refine ih (n - 1) (by omega) h1 f (i + 1) _ (by omega) hA hG (fun j hj => ?_) (by rw [nI_add])
        rw [hf j hj]
        congr 1
        by_cases e : j = i
        · subst e; rw [if_neg (fun z => by omega), if_neg (fun z => c17 z.2)]
        · by_cases e2 : j < i ∧ g j = a
          · rw [if_pos e2, if_pos ⟨by omega, e2.2⟩]
          · rw [if_neg e2, if_neg (fun z => e2 ⟨by omega, z.2⟩)]
      refine EvP.s (fun _ _ K => Ev.go 1 rfl K) ?_
      refine EvP.s (fun _ _ K => Ev.gf rfl lf_6_21_6 hB rfl K) ?_
      refine EvP.s (fun _ _ K => Ev.go 2 rfl K) ?_
      refine EvP.s (fun _ _ K => Ev.isn rfl hG rfl (by omega) (by omega) K) ?_
      refine EvP.s (fun _ _ K => Ev.go 2 rfl K) ?_
      refine ih (n - 1) (by omega) _ _ (i + 1) _ (by omega) (hA.trans (AG.set h1 _ (by omega) (by omega))) (List.getElem?_set_self (cell_lt hG)) (fun j hj => ?_) (by rw [nI_add])
      by_cases e : j = i
      · subst e; rw [pk_us, if_pos ⟨by omega, c17⟩]
      · rw [pk_un e, hf j hj]
        congr 1
        by_cases e2 : j < i ∧ g j = a
        · rw [if_pos e2, if_pos ⟨by omega, e2.2⟩]
        · rw [if_neg e2, if_neg (fun z => e2 ⟨by omega, z.2⟩)]
  refine EvP.s (fun _ _ K => Ev.go 2 rfl K) ?_
  exact L (bm b) h f0 0 _ (by omega) (AG.refl _ _ _) hG0 (fun j hj => by rw [if_neg (fun z => absurd z.1 (Nat.not_lt_zero j))]; exact hf0 j hj) rfl
theorem e_U_tieGroups (d : Nat) {h : sn_H} {w : sn_Lw} {b : sn_Bk} {ad ru : Nat} (hw : WL w) (hb : WB w.1 b) (h3 : bk b = 3) (hO : BO h w b ad ru (bex b ad)) {f0 : Nat → Int32} (hG0 : h[ad + 6]? = some (.inl (0, 32, .inl f0))) {s : Nat} {sv : Int64} (e1 : sv = lN s) (hs : s < 2 ^ 32) : SpP (d + 2) me_U_tieGroups [.ref ad, .long sv] h (PGr h ad (bm b) (grp (frs w b) (otk w b) s 32)) := by
  subst e1
  have hbx : bex b ad = [.ref (ad + 3), .ref (ad + 4), .ref (ad + 5), .ref (ad + 6)] := if_pos h3
  have hm := hb.2.1
  refine SpP.of ok_U_tieGroups (fun r h' z => z.rc) rfl ?_
  have L2 : ∀ (n : Nat) (h1 : sn_H) (f : Nat → Int32) (y : Nat) (yv : Int32) (v4 : Value), (y + n = 32) → (AG h h1 (ad + 6) 1) → (h1[ad + 6]? = some (.inl (0, 32, .inl f))) → (∀ j, j < bm b → f j = nI (grp (frs w b) (otk w b) s y j)) → (yv = nI y) → EvP o0 (d + 2) me_U_tieGroups 25 [.ref ad, .long (lN s), .retAddr 0, .int yv, v4] [] h1 (PGr h ad (bm b) (grp (frs w b) (otk w b) s 32)) := by
    intro n
    induction n using Nat.strongRecOn with
    | _ n ih =>
      intro h1 f y yv v4 k1 hA hG hf e3
      subst e3
      have hO1 := hO.agI hG0 hA
      have hB := hO1.1
      rw [h3, hbx] at hB
      have hfl := frs_lt (w := w) hb y
      have hmk := mrk_le (w := w) (b := b) 1 y
      have ho := oth_lt (frs w b y) (mrk w b 1 y) (show 0 < bm b by omega)
      have hgl := grp_lt (fr := frs w b) (ot := otk w b) (s := s) (fun x => frs_lt (w := w) hb x) y
      refine EvP.s (fun _ _ K => Ev.go 2 rfl K) ?_
      refine EvP.ige rfl rfl rfl (by omega) (by omega) (fun c28 => ?_) (fun c28 => ?_)
      · refine ⟨_, _, Ev.retv rfl, ?_⟩
        have ey : y = 32 := by omega
        subst ey
        exact ⟨rfl, hA, f, hG, hf⟩
      refine EvP.s (fun _ _ K => Ev.go 2 rfl K) ?_
      refine EvP.s (fun _ _ K => Ev.cs (E' := me_X_has) rfl mk_X_has ls_6_67 rfl rfl (e_X_has (d + 1) _ rfl rfl (by omega) (by omega)) K) ?_
      refine EvP.zb rfl rfl (fun c36 => ?_) (fun c36 => ?_)
      · refine EvP.s (fun _ _ K => Ev.go 2 rfl K) ?_
        refine ih (n - 1) (by omega) h1 f (y + 1) _ _ (by omega) hA hG (fun j hj => ?_) (by rw [nI_add])
        rw [hf j hj]
        congr 1
        exact (if_neg (fun z => by rw [c36] at z; cases z.1)).symm
      refine EvP.s (fun _ _ K => Ev.go 2 rfl K) ?_
      refine EvP.s (fun _ _ K => Ev.cv (E' := me_U_firstPlace) rfl mk_U_firstPlace lv_6_45_6 rfl hB rfl (e_U_firstPlace d hw hb hO1 h3 rfl (by omega)) K) ?_
      refine EvP.s (fun _ _ K => Ev.go 3 rfl K) ?_
      refine EvP.s (fun _ _ K => Ev.gf rfl lf_6_21_6 hB rfl K) ?_
      refine EvP.s (fun _ _ K => Ev.go 4 rfl K) ?_
      refine EvP.s (fun _ _ K => Ev.cv (E' := me_U_markOf) rfl mk_U_markOf lv_6_48_6 rfl hB rfl (e_U_markOf d hw hb hO1 h3 rfl (by omega)) K) ?_
      refine EvP.s (fun _ _ K => Ev.cv (E' := me_U_otherPlace) rfl mk_U_otherPlace lv_6_51_6 rfl hB rfl (e_U_otherPlace d hw hb hO1 h3 rfl rfl hfl (by omega)) K) ?_
      refine EvP.s (fun _ _ K => Ev.iln rfl hG rfl (by omega) (by omega) K) ?_
      rw [hf _ (by omega)]
      refine EvP.s (fun _ _ K => Ev.go 1 rfl K) ?_
      refine EvP.s (fun _ _ K => Ev.gf rfl lf_6_21_6 hB rfl K) ?_
      refine EvP.s (fun _ _ K => Ev.go 1 rfl K) ?_
      refine EvP.s (fun _ _ K => Ev.iln rfl hG rfl (by omega) (by omega) K) ?_
      rw [hf _ (by omega)]
      obtain ⟨r2, h2, sp2, er, hA2, f2, hG2, hf2⟩ := e_U_renameGroup (d + 1) hw hb h3 hO1 hG hf hgl (rfl : nI (grp (frs w b) (otk w b) s y (otk w b y)) = _) (rfl : nI (grp (frs w b) (otk w b) s y (frs w b y)) = _) (by have := hgl (otk w b y) (by unfold otk; omega); omega)
      subst er
      refine EvP.s (fun _ _ K => Ev.cv0 (E' := me_U_renameGroup) rfl mk_U_renameGroup lv_6_91_6 rfl hB rfl (sp2) K) ?_
      refine EvP.s (fun _ _ K => Ev.go 2 rfl K) ?_
      refine ih (n - 1) (by omega) h2 f2 (y + 1) _ _ (by omega) (hA.trans hA2) hG2 (fun j hj => ?_) (by rw [nI_add])
      rw [hf2 j hj]
      congr 1
      show _ = (if s.testBit y = true ∧ _ then _ else _)
      simp only [c36, true_and]
  have L1 : ∀ (n : Nat) (h1 : sn_H) (f : Nat → Int32) (y : Nat) (yv : Int32), (y + n = bm b) → (AG h h1 (ad + 6) 1) → (h1[ad + 6]? = some (.inl (0, 32, .inl f))) → (∀ j, j < y → f j = nI j) → (yv = nI y) → EvP o0 (d + 2) me_U_tieGroups 2 [.ref ad, .long (lN s), .retAddr 0, .int yv, .retAddr 0] [] h1 (PGr h ad (bm b) (grp (frs w b) (otk w b) s 32)) := by
    intro n
    induction n using Nat.strongRecOn with
    | _ n ih =>
      intro h1 f y yv k1 hA hG hf e3
      subst e3
      have hO1 := hO.agI hG0 hA
      have hB := hO1.1
      rw [h3, hbx] at hB
      refine EvP.s (fun _ _ K => Ev.go 2 rfl K) ?_
      refine EvP.s (fun _ _ K => Ev.gf rfl lf_6_28_6 hB rfl K) ?_
      refine EvP.ige rfl rfl rfl (by omega) (by omega) (fun c7 => ?_) (fun c7 => ?_)
      · refine EvP.s (fun _ _ K => Ev.go 2 rfl K) ?_
        exact L2 32 h1 f 0 _ _ (by omega) hA hG (fun j hj => hf j (by omega)) rfl
      refine EvP.s (fun _ _ K => Ev.go 1 rfl K) ?_
      refine EvP.s (fun _ _ K => Ev.gf rfl lf_6_21_6 hB rfl K) ?_
      refine EvP.s (fun _ _ K => Ev.go 2 rfl K) ?_
      refine EvP.s (fun _ _ K => Ev.isn rfl hG rfl (by omega) (by omega) K) ?_
      refine EvP.s (fun _ _ K => Ev.go 2 rfl K) ?_
      refine ih (n - 1) (by omega) _ _ (y + 1) _ (by omega) (hA.trans (AG.set h1 _ (by omega) (by omega))) (List.getElem?_set_self (cell_lt hG)) (fun j hj => ?_) (by rw [nI_add])
      by_cases e : j = y
      · subst e; exact pk_us
      · rw [pk_un e]; exact hf j (by omega)
  refine EvP.s (fun _ _ K => Ev.go 2 rfl K) ?_
  exact L1 (bm b) h f0 0 _ (by omega) (AG.refl _ _ _) hG0 (fun j hj => absurd hj (Nat.not_lt_zero j)) rfl
def PMo (h : sn_H) (ad v : Nat) (r : Option Value) (h' : sn_H) : Prop := r = some (.int (nI v)) ∧ AG h h' (ad + 6) 1 ∧ IR h' (ad + 6) 32
theorem PMo.rc {h : sn_H} {ad v : Nat} {r : Option Value} {h' : sn_H} (q : PMo h ad v r h') : sn_rc (some .int) r := by
  obtain ⟨rfl, _⟩ := q; trivial
set_option maxHeartbeats 4000000 in
theorem e_U_mostAtOnce (d : Nat) {h : sn_H} {w : sn_Lw} {b : sn_Bk} {ad ru : Nat} (hw : WL w) (hb : WB w.1 b) (h3 : bk b = 3) (hO : BO h w b ad ru (bex b ad)) {f0 : Nat → Int32} (hG0 : h[ad + 6]? = some (.inl (0, 32, .inl f0))) {s : Nat} {sv : Int64} (e1 : sv = lN s) (hs : s < 2 ^ 32) : SpP (d + 3) me_U_mostAtOnce [.ref ad, .long sv] h (PMo h ad (mst w b s)) := by
  subst e1
  have hbx : bex b ad = [.ref (ad + 3), .ref (ad + 4), .ref (ad + 5), .ref (ad + 6)] := if_pos h3
  have hm := hb.2.1
  obtain ⟨r2, h1, sp2, er, hA, f, hG, hf⟩ := e_U_tieGroups d hw hb h3 hO hG0 (rfl : lN s = lN s) hs
  subst er
  have hB0 := hO.1
  rw [h3, hbx] at hB0
  have hO1 := hO.agI hG0 hA
  have hB := hO1.1
  rw [h3, hbx] at hB
  have hgl := grp_lt (fr := frs w b) (ot := otk w b) (s := s) (fun x => frs_lt (w := w) hb x) 32
  refine SpP.of ok_U_mostAtOnce (fun r h' z => z.rc) rfl ?_
  have L3 : ∀ (n : Nat) (l : Nat) (mv : Int32) (lv : Int32) (v5 : Value) (v6 : Value) (v7 : Value), (l + n = bm b) → (mv = nI (smF (fun l => min (ctf (fun i => decide ((grp (frs w b) (otk w b) s 32) i = l)) (bm b)) (ctf (fun x => s.testBit x && decide ((grp (frs w b) (otk w b) s 32) (frs w b x) = l)) 32)) l)) → (lv = nI l) → EvP o0 (d + 3) me_U_mostAtOnce 10 [.ref ad, .long (lN s), .retAddr 0, .int mv, .int lv, v5, v6, v7] [] h1 (PMo h ad (mst w b s)) := by
    intro n
    induction n using Nat.strongRecOn with
    | _ n ih =>
      intro l mv lv v5 v6 v7 k1 k2 e3
      subst k2
      subst e3
      refine EvP.s (fun _ _ K => Ev.go 2 rfl K) ?_
      refine EvP.s (fun _ _ K => Ev.gf rfl lf_6_28_6 hB rfl K) ?_
      refine EvP.ige rfl rfl rfl (by omega) (by omega) (fun c16 => ?_) (fun c16 => ?_)
      · refine EvP.s (fun _ _ K => Ev.go 1 rfl K) ?_
        refine ⟨_, _, Ev.reti rfl rfl, ?_⟩
        rw [show l = bm b by omega]
        exact ⟨rfl, hA, _, hG⟩
      refine EvP.s (fun _ _ K => Ev.go 4 rfl K) ?_
      have L4 : ∀ (n2 : Nat) (y : Nat) (cv : Int32) (yv : Int32) (v7 : Value), (y + n2 = bm b) → (cv = nI (ctf (fun i => decide ((grp (frs w b) (otk w b) s 32) i = l)) y)) → (yv = nI y) → EvP o0 (d + 3) me_U_mostAtOnce 25 [.ref ad, .long (lN s), .retAddr 0, .int (nI (smF (fun l => min (ctf (fun i => decide ((grp (frs w b) (otk w b) s 32) i = l)) (bm b)) (ctf (fun x => s.testBit x && decide ((grp (frs w b) (otk w b) s 32) (frs w b x) = l)) 32)) l)), .int (nI l), .int cv, .int yv, v7] [] h1 (PMo h ad (mst w b s)) := by
        intro n2
        induction n2 using Nat.strongRecOn with
        | _ n2 ih2 =>
          intro y cv yv v7 g1 g2 g3
          subst g2
          subst g3
          have hct := ctf_le (fun i => decide ((grp (frs w b) (otk w b) s 32) i = l)) y
          refine EvP.s (fun _ _ K => Ev.go 2 rfl K) ?_
          refine EvP.s (fun _ _ K => Ev.gf rfl lf_6_28_6 hB rfl K) ?_
          refine EvP.ige rfl rfl rfl (by omega) (by omega) (fun c31 => ?_) (fun c31 => ?_)
          · refine EvP.s (fun _ _ K => Ev.go 4 rfl K) ?_
            have ey : y = bm b := by omega
            subst ey
            have L5 : ∀ (n2 : Nat) (y : Nat) (cv : Int32) (yv : Int32), (y + n2 = 32) → (cv = nI (ctf (fun x => s.testBit x && decide ((grp (frs w b) (otk w b) s 32) (frs w b x) = l)) y)) → (yv = nI y) → EvP o0 (d + 3) me_U_mostAtOnce 61 [.ref ad, .long (lN s), .retAddr 0, .int (nI (smF (fun l => min (ctf (fun i => decide ((grp (frs w b) (otk w b) s 32) i = l)) (bm b)) (ctf (fun x => s.testBit x && decide ((grp (frs w b) (otk w b) s 32) (frs w b x) = l)) 32)) l)), .int (nI l), .int (nI (ctf (fun i => decide ((grp (frs w b) (otk w b) s 32) i = l)) (bm b))), .int cv, .int yv] [] h1 (PMo h ad (mst w b s)) := by
              intro n2
              induction n2 using Nat.strongRecOn with
              | _ n2 ih2 =>
                intro y cv yv g1 g2 g3
                subst g2
                subst g3
                have hct := ctf_le (fun x => s.testBit x && decide ((grp (frs w b) (otk w b) s 32) (frs w b x) = l)) y
                have hct2 := ctf_le (fun i => decide ((grp (frs w b) (otk w b) s 32) i = l)) (bm b)
                have hfl := frs_lt (w := w) hb y
                have hgl2 := hgl _ hfl
                refine EvP.s (fun _ _ K => Ev.go 2 rfl K) ?_
                refine EvP.ige rfl rfl rfl (by omega) (by omega) (fun c65 => ?_) (fun c65 => ?_)
                · refine EvP.s (fun _ _ K => Ev.go 3 rfl K) ?_
                  refine EvP.s (fun _ _ K => Ev.mn rfl lm_6_86 rfl K) ?_
                  rw [mn_N (by omega) (by omega)]
                  refine EvP.s (fun _ _ K => Ev.go 4 rfl K) ?_
                  have ey : y = 32 := by omega
                  subst ey
                  exact ih (n - 1) (by omega) (l + 1) _ _ _ _ _ (by omega) (by rw [nI_add]; rfl) (by rw [nI_add])
                refine EvP.s (fun _ _ K => Ev.go 2 rfl K) ?_
                refine EvP.s (fun _ _ K => Ev.cs (E' := me_X_has) rfl mk_X_has ls_6_67 rfl rfl (e_X_has (d + 2) _ rfl rfl (by omega) (by omega)) K) ?_
                refine EvP.zb rfl rfl (fun c74 => ?_) (fun c74 => ?_)
                · refine EvP.s (fun _ _ K => Ev.go 2 rfl K) ?_
                  exact ih2 (n2 - 1) (by omega) (y + 1) _ _ (by omega) (by simp [ctf, c74]) (by rw [nI_add])
                refine EvP.s (fun _ _ K => Ev.go 1 rfl K) ?_
                refine EvP.s (fun _ _ K => Ev.gf rfl lf_6_21_6 hB rfl K) ?_
                refine EvP.s (fun _ _ K => Ev.go 2 rfl K) ?_
                refine EvP.s (fun _ _ K => Ev.cv (E' := me_U_firstPlace) rfl mk_U_firstPlace lv_6_45_6 rfl hB rfl (e_U_firstPlace (d + 1) hw hb hO1 h3 rfl (by omega)) K) ?_
                refine EvP.s (fun _ _ K => Ev.iln rfl hG rfl (by omega) (by omega) K) ?_
                rw [hf _ hfl]
                refine EvP.s (fun _ _ K => Ev.go 1 rfl K) ?_
                refine EvP.ine rfl rfl rfl (by omega) (by omega) (fun c90 => ?_) (fun c90 => ?_)
                · refine EvP.s (fun _ _ K => Ev.go 2 rfl K) ?_
                  exact ih2 (n2 - 1) (by omega) (y + 1) _ _ (by omega) (by simp [ctf, c74, c90]) (by rw [nI_add])
                refine EvP.s (fun _ _ K => Ev.go 3 rfl K) ?_
                exact ih2 (n2 - 1) (by omega) (y + 1) _ _ (by omega) (ct_step (by simp [c74, c90])) (by rw [nI_add])
            exact L5 32 0 _ _ (by omega) rfl rfl
          refine EvP.s (fun _ _ K => Ev.go 1 rfl K) ?_
          refine EvP.s (fun _ _ K => Ev.gf rfl lf_6_21_6 hB rfl K) ?_
          refine EvP.s (fun _ _ K => Ev.go 1 rfl K) ?_
          refine EvP.s (fun _ _ K => Ev.iln rfl hG rfl (by omega) (by omega) K) ?_
          rw [hf y (by omega)]
          refine EvP.s (fun _ _ K => Ev.go 1 rfl K) ?_
          refine EvP.ine rfl rfl rfl (by have := hgl y (by omega); omega) (by omega) (fun c43 => ?_) (fun c43 => ?_)
          · refine EvP.s (fun _ _ K => Ev.go 2 rfl K) ?_
            exact ih2 (n2 - 1) (by omega) (y + 1) _ _ _ (by omega) (by simp [ctf, c43]) (by rw [nI_add])
          refine EvP.s (fun _ _ K => Ev.go 3 rfl K) ?_
          exact ih2 (n2 - 1) (by omega) (y + 1) _ _ _ (by omega) (ct_step (by simp [c43])) (by rw [nI_add])
      exact L4 (bm b) 0 _ _ _ (by omega) rfl rfl
  refine EvP.s (fun _ _ K => Ev.go 2 rfl K) ?_
  refine EvP.s (fun _ _ K => Ev.cv0 (E' := me_U_tieGroups) rfl mk_U_tieGroups lv_6_82_6 rfl hB0 rfl (sp2) K) ?_
  refine EvP.s (fun _ _ K => Ev.go 4 rfl K) ?_
  exact L3 (bm b) 0 _ _ _ _ _ (by omega) rfl rfl
theorem lnb_234 {ci : Nat} (h : sn_bk ci) (h6 : ci ≠ 6) : sn_LN 0 234 ci := by
  rcases h with rfl | rfl | rfl | rfl | rfl | rfl
  · exact ln_0_234_3
  · exact ln_0_234_4
  · exact ln_0_234_5
  · exact absurd rfl h6
  · exact ln_0_234_7
  · exact ln_0_234_8
theorem p_X_most (d : Nat) {h : sn_H} {μ : sn_S} (q : XR h μ) (kv : Int32) (sv : Int64) : SpP (d + 4) me_X_most [.ref 1, .int kv, .long sv] h (PXi h (an_most μ kv sv, μ)) := by
  have q0 := q
  obtain ⟨ws, fl, fb, ad, ru, cw, o⟩ := q
  have hX := o.1
  refine SpP.of ok_X_most (fun r h' z => z.rc) rfl ?_
  by_cases hk : rg kv (snb μ)
  · obtain ⟨k, hk1, hk2, rfl⟩ := rg_ex hk
    obtain ⟨_, h27, hR⟩ := o.2.2.2.2.2.2.1 k hk1
    have hb := ws.2.2 k hk1
    have hB := hR.1.1
    have hci : sn_bk (bk (sbk μ k) + 3) := sn_bk_of hb.1
    by_cases e3 : bk (sbk μ k) = 3
    · have hU := hR.2.2.2.1 e3
      obtain ⟨f0, hG0⟩ := id hU.2.2.2
      have e7 : bln (sbk μ k) = 7 := if_pos e3
      rw [e3] at hB
      refine EvP.s (fun _ _ K => Ev.go 2 rfl K) ?_
      refine EvP.s (fun _ _ K => Ev.cv (E' := me_X_find) rfl mk_X_find lv_0_102_0 rfl hX rfl (e_X_find_y (d + 3) ws o rfl hk1) K) ?_
      refine EvP.s (fun _ _ K => Ev.go 2 rfl K) ?_
      refine EvP.s (fun _ _ K => Ev.p rfl rfl trivial K) ?_
      refine EvP.s (fun _ _ K => Ev.go 1 rfl K) ?_
      refine EvP.s (fun _ _ K => Ev.cs (E' := me_X_isSet) rfl mk_X_isSet ls_0_50 rfl rfl (e_X_isSet (d + 3) _ _) K) ?_
      refine EvP.zn rfl rfl (fun c19 => ?_) (fun c19 => ?_)
      · obtain ⟨s, hs, rfl⟩ := sg_ex (ofd c19)
        refine EvP.s (fun _ _ K => Ev.go 1 rfl K) ?_
        refine EvP.s (fun _ _ K => Ev.iy rfl ly_0_234_6 hB K) ?_
        refine EvP.s (fun _ _ K => Ev.bf rfl rfl (by decide) K) ?_
        refine EvP.s (fun _ _ K => Ev.go 1 rfl K) ?_
        refine EvP.s (fun _ _ K => Ev.cc rfl ly_0_234_6 hB K) ?_
        refine EvP.s (fun _ _ K => Ev.go 1 rfl K) ?_
        obtain ⟨r2, h2, sp2, er, hA2, hI2⟩ := e_U_mostAtOnce d ws.1 hb e3 hR.1 hG0 (rfl : lN s = lN s) hs
        subst er
        refine EvP.s (fun _ _ K => Ev.go 2 rfl K) ?_
        refine EvP.s (fun _ _ K => Ev.cv (E' := me_U_mostAtOnce) rfl mk_U_mostAtOnce lv_0_240_6 rfl hB rfl (sp2) K) ?_
        refine EvP.s (fun _ _ K => Ev.go 1 rfl K) ?_
        refine ⟨_, _, Ev.reti rfl rfl, ?_⟩
        have hR2 : BR h2 (sw μ) (sbk μ k) (ad k) (ru k) := hR.rowU e3 (hA2.mono (by omega) (by omega)) (hU.1.ne (hA2.2 _ (by omega))) (hU.2.1.ne (hA2.2 _ (by omega))) (hU.2.2.1.ne (hA2.2 _ (by omega))) hI2
        have hA3 : AG h h2 (ad k) (bln (sbk μ k)) := hA2.mono (by omega) (by omega)
        have o2 := o.chg ws hk1 (b' := sbk μ k) rfl hA3 hR2
        rw [setB_id] at o2
        refine PXi.mk ⟨ws, _, _, _, _, _, o2⟩ (hA3.lw h27) (GB.ag hR hR2 rfl hA3) ?_
        unfold an_most; rw [if_neg (fun z => z hk), if_neg (fun z => z (ofd c19)), tn_nI hk2, ts_lN hs, if_pos e3]
      refine EvP.s (fun _ _ K => Ev.go 1 rfl K) ?_
      refine ⟨_, _, Ev.reti rfl rfl, ?_⟩
      refine PXi.mk q0 (LW.refl _) (GB.refl _) ?_
      unfold an_most; rw [if_neg (fun z => z hk), if_pos (ofn c19)]
    · refine EvP.s (fun _ _ K => Ev.go 2 rfl K) ?_
      refine EvP.s (fun _ _ K => Ev.cv (E' := me_X_find) rfl mk_X_find lv_0_102_0 rfl hX rfl (e_X_find_y (d + 3) ws o rfl hk1) K) ?_
      refine EvP.s (fun _ _ K => Ev.go 2 rfl K) ?_
      refine EvP.s (fun _ _ K => Ev.p rfl rfl trivial K) ?_
      refine EvP.s (fun _ _ K => Ev.go 1 rfl K) ?_
      refine EvP.s (fun _ _ K => Ev.cs (E' := me_X_isSet) rfl mk_X_isSet ls_0_50 rfl rfl (e_X_isSet (d + 3) _ _) K) ?_
      refine EvP.zn rfl rfl (fun c19 => ?_) (fun c19 => ?_)
      · obtain ⟨s, hs, rfl⟩ := sg_ex (ofd c19)
        refine EvP.s (fun _ _ K => Ev.go 1 rfl K) ?_
        refine EvP.s (fun _ _ K => Ev.in rfl (lnb_234 hci (by omega)) hB K) ?_
        refine EvP.s (fun _ _ K => Ev.bt rfl rfl rfl K) ?_
        refine EvP.s (fun _ _ K => Ev.go 1 rfl K) ?_
        refine ⟨_, _, Ev.reti rfl rfl, ?_⟩
        refine PXi.mk q0 (LW.refl _) (GB.refl _) ?_
        unfold an_most; rw [if_neg (fun z => z hk), if_neg (fun z => z (ofd c19)), tn_nI hk2, ts_lN hs, if_neg e3]
      refine EvP.s (fun _ _ K => Ev.go 1 rfl K) ?_
      refine ⟨_, _, Ev.reti rfl rfl, ?_⟩
      refine PXi.mk q0 (LW.refl _) (GB.refl _) ?_
      unfold an_most; rw [if_neg (fun z => z hk), if_pos (ofn c19)]
  · refine EvP.s (fun _ _ K => Ev.go 2 rfl K) ?_
    refine EvP.s (fun _ _ K => Ev.cv (E' := me_X_find) rfl mk_X_find lv_0_102_0 rfl hX rfl (e_X_find_n (d + 3) q0 hk) K) ?_
    refine EvP.s (fun _ _ K => Ev.go 2 rfl K) ?_
    refine EvP.s (fun _ _ K => Ev.p rfl rfl trivial K) ?_
    refine EvP.s (fun _ _ K => Ev.go 1 rfl K) ?_
    refine ⟨_, _, Ev.reti rfl rfl, ?_⟩
    refine PXi.mk q0 (LW.refl _) (GB.refl _) ?_
    unfold an_most; rw [if_pos hk]
