/-! THE CLASS: insert, remove -/
def PI (h : sn_H) (w : sn_Lw) (b : sn_Bk) (ad ru : Nat) (c : Bool) (g : Nat → Nat) (r : Option Value) (h' : sn_H) : Prop := r = some (.int (b2i c)) ∧ AG h h' ad (bln b) ∧ BR h' w (bnu b g) ad ru
theorem PI.rc {h : sn_H} {w : sn_Lw} {b : sn_Bk} {ad ru : Nat} {c : Bool} {g : Nat → Nat} {r : Option Value} {h' : sn_H} (q : PI h w b ad ru c g r h') : sn_rc (some .boolean) r := by
  obtain ⟨rfl, _⟩ := q; exact b2i_rc _
theorem e_P_insert (d : Nat) {h : sn_H} {w : sn_Lw} {b : sn_Bk} {ad ru : Nat} (hw : WL w) (hb : WB w.1 b) (hR : BR h w b ad ru) {y : Nat} {yv : Int32} (e1 : yv = nI y) (hy : y < 32) (hkd : bk b = 0 ∨ bk b = 2) : SpP (d + 3) me_P_insert [.ref ad, .int yv] h (PI h w b ad ru true (gput (bk b) (bm b) (pls w b y) (bn b))) := by
  subst e1
  have hm := hb.2.1
  have h7 := hb.2.2.2.2.2.2.2.1
  have hB := hR.1.1
  have hci : sn_pl (bk b + 3) := by unfold sn_pl; omega
  refine SpP.of ok_P_insert (fun r h' z => z.rc) rfl ?_
  have L : ∀ (n : Nat) (h1 : sn_H) (g : Nat → Nat) (i : Nat) (iv : Int32), (i + n = bm b) → (AG h h1 ad (bln b)) → (BR h1 w (bnu b g) ad ru) → (∀ j, g j = if j < i then gput (bk b) (bm b) (pls w b y) (bn b) j else bn b j) → (iv = nI i) → EvP o0 (d + 3) me_P_insert 9 [.ref ad, .int (nI y), .long (lN (pls w b y)), .retAddr 0, .int iv] [] h1 (PI h w b ad ru true (gput (bk b) (bm b) (pls w b y) (bn b))) := by
    intro n
    induction n using Nat.strongRecOn with
    | _ n ih =>
      intro h1 g i iv h2 hA hR1 hg e3
      subst e3
      have hB : h1[ad]? = some (.inr (bk b + 3, bfs b ad ru (bex b ad))) := hR1.1.1
      obtain ⟨f, hf, hfn⟩ := hR1.2.1
      have hl := bln_3 b
      refine EvP.s (fun _ _ K => Ev.go 2 rfl K) ?_
      refine EvP.s (fun _ _ K => Ev.gf rfl (lfb_3_13 (hci)) hB rfl K) ?_
      refine EvP.ige rfl rfl rfl (by omega) (by omega) (fun c15 => ?_) (fun c15 => ?_)
      · refine EvP.s (fun _ _ K => Ev.go 1 rfl K) ?_
        refine ⟨_, _, Ev.reti rfl rfl, ?_⟩
        have eg : g = gput (bk b) (bm b) (pls w b y) (bn b) := by
          funext j
          rw [hg j]
          by_cases e : j < i
          · rw [if_pos e]
          · rw [if_neg e]; unfold gput; rw [if_neg (fun z => by omega)]
        rw [eg] at hR1
        exact ⟨rfl, hA, hR1⟩
      refine EvP.s (fun _ _ K => Ev.go 2 rfl K) ?_
      refine EvP.s (fun _ _ K => Ev.cs (E' := me_X_has) rfl mk_X_has ls_3_33 rfl rfl (e_X_has (d + 2) _ rfl rfl (by have := pls_lt (w := w) hb y; omega) (by omega)) K) ?_
      refine EvP.zb rfl rfl (fun c24 => ?_) (fun c24 => ?_)
      · refine EvP.s (fun _ _ K => Ev.go 2 rfl K) ?_
        exact ih (n - 1) (by omega) _ _ (i + 1) _ (by omega) hA hR1 (fun j => by
          rw [hg j]
          by_cases e2 : j < i
          · rw [if_pos e2, if_pos (by omega)]
          · rw [if_neg e2]
            by_cases e : j = i
            · subst e; rw [if_pos (by omega)]; unfold gput; rw [if_neg (fun z => by rw [c24] at z; cases z.2)]
            · rw [if_neg (by omega)]) (by rw [nI_add])
      refine EvP.s (fun _ _ K => Ev.go 1 rfl K) ?_
      refine EvP.s (fun _ _ K => Ev.gf rfl (lfb_3_39 (hci)) hB rfl K) ?_
      refine EvP.s (fun _ _ K => Ev.go 2 rfl K) ?_
      refine EvP.s (fun _ _ K => Ev.isn rfl hf rfl (by omega) (by omega) K) ?_
      refine EvP.s (fun _ _ K => Ev.go 2 rfl K) ?_
      have hs := hR1.num hf (i := i) (v := gput (bk b) (bm b) (pls w b y) (bn b) i) (x := nI 1) (by unfold gput; rw [if_pos ⟨by omega, c24⟩, if_neg (by omega)])
      exact ih (n - 1) (by omega) _ _ (i + 1) _ (by omega) (hA.trans (AG.set h1 _ (by omega) (by omega))) hs (fun j => by
        by_cases e : j = i
        · subst e; rw [if_pos (by omega)]; exact if_pos rfl
        · rw [show uN (bn (bnu b g)) i (gput (bk b) (bm b) (pls w b y) (bn b) i) j = g j from if_neg e, hg j]
          by_cases e2 : j < i
          · rw [if_pos e2, if_pos (by omega)]
          · rw [if_neg e2, if_neg (by omega)]) (by rw [nI_add])
  refine EvP.s (fun _ _ K => Ev.go 2 rfl K) ?_
  refine EvP.s (fun _ _ K => Ev.cv (E' := vt_placeBits (bk b + 3)) rfl (mkb_placeBits (sn_pl_bk hci)) (lvb_3_23 hci) rfl hB rfl (v_placeBits d hw hb hR.1 rfl hy) K) ?_
  refine EvP.s (fun _ _ K => Ev.go 3 rfl K) ?_
  exact L (bm b) h (bn b) 0 _ (by omega) (AG.refl _ _ _) hR (fun j => rfl) rfl
theorem e_C_insert (d : Nat) {h : sn_H} {w : sn_Lw} {b : sn_Bk} {ad ru : Nat} (hw : WL w) (hb : WB w.1 b) (hR : BR h w b ad ru) {y : Nat} {yv : Int32} (e1 : yv = nI y) (hy : y < 32) (hkd : bk b = 1) : SpP (d + 3) me_C_insert [.ref ad, .int yv] h (PI h w b ad ru true (gput (bk b) (bm b) (pls w b y) (bn b))) := by
  subst e1
  have hm := hb.2.1
  have h7 := hb.2.2.2.2.2.2.2.1
  have hB := hR.1.1
  rw [hkd] at hB
  refine SpP.of ok_C_insert (fun r h' z => z.rc) rfl ?_
  have L : ∀ (n : Nat) (h1 : sn_H) (g : Nat → Nat) (i : Nat) (iv : Int32), (i + n = bm b) → (AG h h1 ad (bln b)) → (BR h1 w (bnu b g) ad ru) → (∀ j, g j = if j < i then gput (bk b) (bm b) (pls w b y) (bn b) j else bn b j) → (iv = nI i) → EvP o0 (d + 3) me_C_insert 9 [.ref ad, .int (nI y), .long (lN (pls w b y)), .retAddr 0, .int iv] [] h1 (PI h w b ad ru true (gput (bk b) (bm b) (pls w b y) (bn b))) := by
    intro n
    induction n using Nat.strongRecOn with
    | _ n ih =>
      intro h1 g i iv h2 hA hR1 hg e3
      subst e3
      have hB : h1[ad]? = some (.inr (bk b + 3, bfs b ad ru (bex b ad))) := hR1.1.1
      obtain ⟨f, hf, hfn⟩ := hR1.2.1
      have hl := bln_3 b
      rw [hkd] at hB
      refine EvP.s (fun _ _ K => Ev.go 2 rfl K) ?_
      refine EvP.s (fun _ _ K => Ev.gf rfl lf_4_15_4 hB rfl K) ?_
      refine EvP.ige rfl rfl rfl (by omega) (by omega) (fun c15 => ?_) (fun c15 => ?_)
      · refine EvP.s (fun _ _ K => Ev.go 1 rfl K) ?_
        refine ⟨_, _, Ev.reti rfl rfl, ?_⟩
        have eg : g = gput (bk b) (bm b) (pls w b y) (bn b) := by
          funext j
          rw [hg j]
          by_cases e : j < i
          · rw [if_pos e]
          · rw [if_neg e]; unfold gput; rw [if_neg (fun z => by omega)]
        rw [eg] at hR1
        exact ⟨rfl, hA, hR1⟩
      refine EvP.s (fun _ _ K => Ev.go 2 rfl K) ?_
      refine EvP.s (fun _ _ K => Ev.cs (E' := me_X_has) rfl mk_X_has ls_4_19 rfl rfl (e_X_has (d + 2) _ rfl rfl (by have := pls_lt (w := w) hb y; omega) (by omega)) K) ?_
      refine EvP.zb rfl rfl (fun c24 => ?_) (fun c24 => ?_)
      · refine EvP.s (fun _ _ K => Ev.go 2 rfl K) ?_
        exact ih (n - 1) (by omega) _ _ (i + 1) _ (by omega) hA hR1 (fun j => by
          rw [hg j]
          by_cases e2 : j < i
          · rw [if_pos e2, if_pos (by omega)]
          · rw [if_neg e2]
            by_cases e : j = i
            · subst e; rw [if_pos (by omega)]; unfold gput; rw [if_neg (fun z => by rw [c24] at z; cases z.2)]
            · rw [if_neg (by omega)]) (by rw [nI_add])
      refine EvP.s (fun _ _ K => Ev.go 1 rfl K) ?_
      refine EvP.s (fun _ _ K => Ev.gf rfl lf_4_23_4 hB rfl K) ?_
      refine EvP.s (fun _ _ K => Ev.go 1 rfl K) ?_
      refine EvP.s (fun _ _ K => Ev.iln rfl hf rfl (by omega) (by omega) K) ?_
      rw [hfn i (by omega), show bn (bnu b g) i = bn b i from (hg i).trans (if_neg (by omega))]
      refine EvP.s (fun _ _ K => Ev.go 1 rfl K) ?_
      refine EvP.ige rfl rfl rfl (by have := h7 i; omega) (by omega) (fun c36 => ?_) (fun c36 => ?_)
      · refine EvP.s (fun _ _ K => Ev.go 2 rfl K) ?_
        exact ih (n - 1) (by omega) _ _ (i + 1) _ (by omega) hA hR1 (fun j => by
          rw [hg j]
          by_cases e2 : j < i
          · rw [if_pos e2, if_pos (by omega)]
          · rw [if_neg e2]
            by_cases e : j = i
            · subst e; rw [if_pos (by omega)]; unfold gput; rw [if_pos ⟨by omega, c24⟩, if_pos hkd, if_neg (by omega)]; have := h7 j; omega
            · rw [if_neg (by omega)]) (by rw [nI_add])
      refine EvP.s (fun _ _ K => Ev.go 1 rfl K) ?_
      refine EvP.s (fun _ _ K => Ev.gf rfl lf_4_23_4 hB rfl K) ?_
      refine EvP.s (fun _ _ K => Ev.go 2 rfl K) ?_
      refine EvP.s (fun _ _ K => Ev.iln rfl hf rfl (by omega) (by omega) K) ?_
      rw [hfn i (by omega), show bn (bnu b g) i = bn b i from (hg i).trans (if_neg (by omega))]
      refine EvP.s (fun _ _ K => Ev.go 2 rfl K) ?_
      refine EvP.s (fun _ _ K => Ev.isn rfl hf rfl (by omega) (by omega) K) ?_
      refine EvP.s (fun _ _ K => Ev.go 2 rfl K) ?_
      have hs := hR1.num hf (i := i) (v := gput (bk b) (bm b) (pls w b y) (bn b) i) (x := nI (bn b i) + nI 1) (by unfold gput; rw [if_pos ⟨by omega, c24⟩, if_pos hkd, if_pos (by omega), nI_add])
      exact ih (n - 1) (by omega) _ _ (i + 1) _ (by omega) (hA.trans (AG.set h1 _ (by omega) (by omega))) hs (fun j => by
        by_cases e : j = i
        · subst e; rw [if_pos (by omega)]; exact if_pos rfl
        · rw [show uN (bn (bnu b g)) i (gput (bk b) (bm b) (pls w b y) (bn b) i) j = g j from if_neg e, hg j]
          by_cases e2 : j < i
          · rw [if_pos e2, if_pos (by omega)]
          · rw [if_neg e2, if_neg (by omega)]) (by rw [nI_add])
  refine EvP.s (fun _ _ K => Ev.go 2 rfl K) ?_
  refine EvP.s (fun _ _ K => Ev.cv (E' := me_P_placeBits) rfl mk_P_placeBits lv_4_9_4 rfl hB rfl (e_P_placeBits (d + 1) hw hb hR.1 rfl hy (by omega)) K) ?_
  refine EvP.s (fun _ _ K => Ev.go 3 rfl K) ?_
  exact L (bm b) h (bn b) 0 _ (by omega) (AG.refl _ _ _) hR (fun j => rfl) rfl
def PT (h : sn_H) (w : sn_Lw) (b : sn_Bk) (ad ru : Nat) (g : Nat → Nat) (r : Option Value) (h' : sn_H) : Prop := r = none ∧ AG h h' ad (bln b) ∧ BR h' w (bnu b g) ad ru
theorem PT.rc {h : sn_H} {w : sn_Lw} {b : sn_Bk} {ad ru : Nat} {g : Nat → Nat} {r : Option Value} {h' : sn_H} (q : PT h w b ad ru g r h') : sn_rc none r := by
  obtain ⟨rfl, _⟩ := q; trivial
theorem pk_sub1 {n : Nat} (h : 0 < n) : nI n - nI 1 = nI (n - 1) := by
  obtain ⟨m, rfl⟩ : ∃ m, n = m + 1 := ⟨n - 1, by omega⟩
  rw [← nI_add]
  simp
theorem e_C_remove (d : Nat) {h : sn_H} {w : sn_Lw} {b : sn_Bk} {ad ru : Nat} (hw : WL w) (hb : WB w.1 b) (hR : BR h w b ad ru) {y : Nat} {yv : Int32} (e1 : yv = nI y) (hy : y < 32) (hkd : bk b = 1) : SpP (d + 3) me_C_remove [.ref ad, .int yv] h (PT h w b ad ru (gtak (bm b) (pls w b y) (bn b))) := by
  subst e1
  have hm := hb.2.1
  have h7 := hb.2.2.2.2.2.2.2.1
  have hB := hR.1.1
  rw [hkd] at hB
  refine SpP.of ok_C_remove (fun r h' z => z.rc) rfl ?_
  have L : ∀ (n : Nat) (h1 : sn_H) (g : Nat → Nat) (i : Nat) (iv : Int32), (i + n = bm b) → (AG h h1 ad (bln b)) → (BR h1 w (bnu b g) ad ru) → (∀ j, g j = if j < i then gtak (bm b) (pls w b y) (bn b) j else bn b j) → (iv = nI i) → EvP o0 (d + 3) me_C_remove 9 [.ref ad, .int (nI y), .long (lN (pls w b y)), .retAddr 0, .int iv] [] h1 (PT h w b ad ru (gtak (bm b) (pls w b y) (bn b))) := by
    intro n
    induction n using Nat.strongRecOn with
    | _ n ih =>
      intro h1 g i iv h2 hA hR1 hg e3
      subst e3
      have hB : h1[ad]? = some (.inr (bk b + 3, bfs b ad ru (bex b ad))) := hR1.1.1
      obtain ⟨f, hf, hfn⟩ := hR1.2.1
      have hl := bln_3 b
      rw [hkd] at hB
      refine EvP.s (fun _ _ K => Ev.go 2 rfl K) ?_
      refine EvP.s (fun _ _ K => Ev.gf rfl lf_4_15_4 hB rfl K) ?_
      refine EvP.ige rfl rfl rfl (by omega) (by omega) (fun c15 => ?_) (fun c15 => ?_)
      · refine ⟨_, _, Ev.retv rfl, ?_⟩
        have eg : g = gtak (bm b) (pls w b y) (bn b) := by
          funext j
          rw [hg j]
          by_cases e : j < i
          · rw [if_pos e]
          · rw [if_neg e]; unfold gtak; rw [if_neg (fun z => by omega)]
        rw [eg] at hR1
        exact ⟨rfl, hA, hR1⟩
      refine EvP.s (fun _ _ K => Ev.go 2 rfl K) ?_
      refine EvP.s (fun _ _ K => Ev.cs (E' := me_X_has) rfl mk_X_has ls_4_19 rfl rfl (e_X_has (d + 2) _ rfl rfl (by have := pls_lt (w := w) hb y; omega) (by omega)) K) ?_
      refine EvP.zb rfl rfl (fun c24 => ?_) (fun c24 => ?_)
      · refine EvP.s (fun _ _ K => Ev.go 2 rfl K) ?_
        exact ih (n - 1) (by omega) _ _ (i + 1) _ (by omega) hA hR1 (fun j => by
          rw [hg j]
          by_cases e2 : j < i
          · rw [if_pos e2, if_pos (by omega)]
          · rw [if_neg e2]
            by_cases e : j = i
            · subst e; rw [if_pos (by omega)]; unfold gtak; rw [if_neg (fun z => by rw [c24] at z; cases z.2.1)]
            · rw [if_neg (by omega)]) (by rw [nI_add])
      refine EvP.s (fun _ _ K => Ev.go 1 rfl K) ?_
      refine EvP.s (fun _ _ K => Ev.gf rfl lf_4_23_4 hB rfl K) ?_
      refine EvP.s (fun _ _ K => Ev.go 1 rfl K) ?_
      refine EvP.s (fun _ _ K => Ev.iln rfl hf rfl (by omega) (by omega) K) ?_
      rw [hfn i (by omega), show bn (bnu b g) i = bn b i from (hg i).trans (if_neg (by omega))]
      refine EvP.zle rfl rfl (by have := h7 i; omega) (fun c34 => ?_) (fun c34 => ?_)
      · refine EvP.s (fun _ _ K => Ev.go 2 rfl K) ?_
        exact ih (n - 1) (by omega) _ _ (i + 1) _ (by omega) hA hR1 (fun j => by
          rw [hg j]
          by_cases e2 : j < i
          · rw [if_pos e2, if_pos (by omega)]
          · rw [if_neg e2]
            by_cases e : j = i
            · subst e; rw [if_pos (by omega)]; unfold gtak; split <;> omega
            · rw [if_neg (by omega)]) (by rw [nI_add])
      refine EvP.s (fun _ _ K => Ev.go 1 rfl K) ?_
      refine EvP.s (fun _ _ K => Ev.gf rfl lf_4_23_4 hB rfl K) ?_
      refine EvP.s (fun _ _ K => Ev.go 1 rfl K) ?_
      refine EvP.s (fun _ _ K => Ev.iln rfl hf rfl (by omega) (by omega) K) ?_
      rw [hfn i (by omega), show bn (bnu b g) i = bn b i from (hg i).trans (if_neg (by omega))]
      refine EvP.s (fun _ _ K => Ev.go 1 rfl K) ?_
      refine EvP.ige rfl rfl rfl (by have := h7 i; omega) (by omega) (fun c46 => ?_) (fun c46 => ?_)
      · refine EvP.s (fun _ _ K => Ev.go 2 rfl K) ?_
        exact ih (n - 1) (by omega) _ _ (i + 1) _ (by omega) hA hR1 (fun j => by
          rw [hg j]
          by_cases e2 : j < i
          · rw [if_pos e2, if_pos (by omega)]
          · rw [if_neg e2]
            by_cases e : j = i
            · subst e; rw [if_pos (by omega)]; unfold gtak; split <;> omega
            · rw [if_neg (by omega)]) (by rw [nI_add])
      refine EvP.s (fun _ _ K => Ev.go 1 rfl K) ?_
      refine EvP.s (fun _ _ K => Ev.gf rfl lf_4_23_4 hB rfl K) ?_
      refine EvP.s (fun _ _ K => Ev.go 2 rfl K) ?_
      refine EvP.s (fun _ _ K => Ev.iln rfl hf rfl (by omega) (by omega) K) ?_
      rw [hfn i (by omega), show bn (bnu b g) i = bn b i from (hg i).trans (if_neg (by omega))]
      refine EvP.s (fun _ _ K => Ev.go 2 rfl K) ?_
      refine EvP.s (fun _ _ K => Ev.isn rfl hf rfl (by omega) (by omega) K) ?_
      refine EvP.s (fun _ _ K => Ev.go 2 rfl K) ?_
      have hs := hR1.num hf (i := i) (v := gtak (bm b) (pls w b y) (bn b) i) (x := nI (bn b i) - nI 1) (by unfold gtak; rw [if_pos ⟨by omega, c24, c46⟩]; exact (pk_sub1 c34))
      exact ih (n - 1) (by omega) _ _ (i + 1) _ (by omega) (hA.trans (AG.set h1 _ (by omega) (by omega))) hs (fun j => by
        by_cases e : j = i
        · subst e; rw [if_pos (by omega)]; exact if_pos rfl
        · rw [show uN (bn (bnu b g)) i (gtak (bm b) (pls w b y) (bn b) i) j = g j from if_neg e, hg j]
          by_cases e2 : j < i
          · rw [if_pos e2, if_pos (by omega)]
          · rw [if_neg e2, if_neg (by omega)]) (by rw [nI_add])
  refine EvP.s (fun _ _ K => Ev.go 2 rfl K) ?_
  refine EvP.s (fun _ _ K => Ev.cv (E' := me_P_placeBits) rfl mk_P_placeBits lv_4_9_4 rfl hB rfl (e_P_placeBits (d + 1) hw hb hR.1 rfl hy (by omega)) K) ?_
  refine EvP.s (fun _ _ K => Ev.go 3 rfl K) ?_
  exact L (bm b) h (bn b) 0 _ (by omega) (AG.refl _ _ _) hR (fun j => rfl) rfl
theorem e_U_remove (d : Nat) {h : sn_H} {w : sn_Lw} {b : sn_Bk} {ad ru : Nat} (hw : WL w) (hb : WB w.1 b) (hR : BR h w b ad ru) {y : Nat} {yv : Int32} (e1 : yv = nI y) (hy : y < 32) (h3 : bk b = 3) (hin : isin w b y = true) : SpP (d + 2) me_U_remove [.ref ad, .int yv] h (PT h w b ad ru (ntak w b y)) := by
  subst e1
  have hO := hR.1
  have hm := hb.2.1
  have hl := bln_3 b
  obtain ⟨fn, hN, hn⟩ := id hR.2.1
  have hB := hO.1
  have hf := frs_lt (w := w) hb y
  have hmk := mrk_le (w := w) (b := b) 1 y
  have ho := oth_lt (frs w b y) (mrk w b 1 y) (show 0 < bm b by omega)
  have hn8 := hb.2.2.2.2.2.2.2.1
  have hnt : ntak w b y = uN (bn b) (if bn b (frs w b y) = mrk w b 1 y then frs w b y else oth (bm b) (frs w b y) (mrk w b 1 y)) 0 := if_pos h3
  have hin2 : bn b (frs w b y) = mrk w b 1 y ∨ bn b (oth (bm b) (frs w b y) (mrk w b 1 y)) = mrk w b 1 y := by
    unfold isin at hin
    rw [if_pos h3] at hin
    simpa using hin
  rw [h3] at hB
  refine SpP.of ok_U_remove (fun r h' z => z.rc) rfl ?_
  refine EvP.s (fun _ _ K => Ev.go 2 rfl K) ?_
  refine EvP.s (fun _ _ K => Ev.cv (E' := me_U_firstPlace) rfl mk_U_firstPlace lv_6_45_6 rfl hB rfl (e_U_firstPlace d hw hb hO h3 rfl hy) K) ?_
  refine EvP.s (fun _ _ K => Ev.go 3 rfl K) ?_
  refine EvP.s (fun _ _ K => Ev.cv (E' := me_U_markOf) rfl mk_U_markOf lv_6_48_6 rfl hB rfl (e_U_markOf d hw hb hO h3 rfl hy) K) ?_
  refine EvP.s (fun _ _ K => Ev.go 2 rfl K) ?_
  refine EvP.s (fun _ _ K => Ev.gf rfl lf_6_54_6 hB rfl K) ?_
  refine EvP.s (fun _ _ K => Ev.go 1 rfl K) ?_
  refine EvP.s (fun _ _ K => Ev.iln rfl hN rfl (by omega) (by omega) K) ?_
  rw [hn _ (by omega)]
  refine EvP.s (fun _ _ K => Ev.go 1 rfl K) ?_
  refine EvP.ine rfl rfl rfl (by have := hn8 (frs w b y); omega) (by omega) (fun c19 => ?_) (fun c19 => ?_)
  · refine EvP.s (fun _ _ K => Ev.go 3 rfl K) ?_
    refine EvP.s (fun _ _ K => Ev.cv (E' := me_U_otherPlace) rfl mk_U_otherPlace lv_6_51_6 rfl hB rfl (e_U_otherPlace d hw hb hO h3 rfl rfl hf (by omega)) K) ?_
    refine EvP.s (fun _ _ K => Ev.go 2 rfl K) ?_
    refine EvP.s (fun _ _ K => Ev.gf rfl lf_6_54_6 hB rfl K) ?_
    refine EvP.s (fun _ _ K => Ev.go 1 rfl K) ?_
    refine EvP.s (fun _ _ K => Ev.iln rfl hN rfl (by omega) (by omega) K) ?_
    rw [hn _ (by omega)]
    refine EvP.s (fun _ _ K => Ev.go 1 rfl K) ?_
    refine EvP.ine rfl rfl rfl (by first | (have := hn8 (oth (bm b) (frs w b y) (mrk w b 1 y)); omega) | (have := hn8 (frs w b y); omega)) (by omega) (fun c42 => ?_) (fun c42 => ?_)
    · exact absurd c42 (by omega)
    refine EvP.s (fun _ _ K => Ev.go 1 rfl K) ?_
    refine EvP.s (fun _ _ K => Ev.gf rfl lf_6_54_6 hB rfl K) ?_
    refine EvP.s (fun _ _ K => Ev.go 2 rfl K) ?_
    refine EvP.s (fun _ _ K => Ev.isn rfl hN rfl (by omega) (by omega) K) ?_
    refine ⟨_, _, Ev.retv rfl, ?_⟩
    refine ⟨rfl, AG.set h _ (by omega) (by omega), ?_⟩
    rw [hnt, if_neg c19]
    exact hR.num hN rfl
  refine EvP.s (fun _ _ K => Ev.go 2 rfl K) ?_
  refine EvP.s (fun _ _ K => Ev.go 2 rfl K) ?_
  refine EvP.s (fun _ _ K => Ev.gf rfl lf_6_54_6 hB rfl K) ?_
  refine EvP.s (fun _ _ K => Ev.go 1 rfl K) ?_
  refine EvP.s (fun _ _ K => Ev.iln rfl hN rfl (by omega) (by omega) K) ?_
  rw [hn _ (by omega)]
  refine EvP.s (fun _ _ K => Ev.go 1 rfl K) ?_
  refine EvP.ine rfl rfl rfl (by first | (have := hn8 (oth (bm b) (frs w b y) (mrk w b 1 y)); omega) | (have := hn8 (frs w b y); omega)) (by omega) (fun c42 => ?_) (fun c42 => ?_)
  · exact absurd c42 (by omega)
  refine EvP.s (fun _ _ K => Ev.go 1 rfl K) ?_
  refine EvP.s (fun _ _ K => Ev.gf rfl lf_6_54_6 hB rfl K) ?_
  refine EvP.s (fun _ _ K => Ev.go 2 rfl K) ?_
  refine EvP.s (fun _ _ K => Ev.isn rfl hN rfl (by omega) (by omega) K) ?_
  refine ⟨_, _, Ev.retv rfl, ?_⟩
  refine ⟨rfl, AG.set h _ (by omega) (by omega), ?_⟩
  rw [hnt, if_pos c19]
  exact hR.num hN rfl
theorem e_P_letsPut (d : Nat) (h : sn_H) (ad : Nat) : Sp d me_P_letsPut [.ref ad] h (some (.int (b2i true))) h := by
  refine Sp.of ok_P_letsPut (b2i_rc _) rfl ?_
  refine Ev.go 1 rfl ?_
  exact Ev.reti rfl (rfl)
theorem e_U_letsPut (d : Nat) (h : sn_H) (ad : Nat) : Sp d me_U_letsPut [.ref ad] h (some (.int (b2i true))) h := by
  refine Sp.of ok_U_letsPut (b2i_rc _) rfl ?_
  refine Ev.go 1 rfl ?_
  exact Ev.reti rfl (rfl)
theorem e_F_letsPut (d : Nat) (h : sn_H) (ad : Nat) : Sp d me_F_letsPut [.ref ad] h (some (.int (b2i false))) h := by
  refine Sp.of ok_F_letsPut (b2i_rc _) rfl ?_
  refine Ev.go 1 rfl ?_
  exact Ev.reti rfl (rfl)
theorem e_L_letsPut (d : Nat) (h : sn_H) (ad : Nat) : Sp d me_L_letsPut [.ref ad] h (some (.int (b2i false))) h := by
  refine Sp.of ok_L_letsPut (b2i_rc _) rfl ?_
  refine Ev.go 1 rfl ?_
  exact Ev.reti rfl (rfl)
theorem e_C_letsTake (d : Nat) (h : sn_H) (ad : Nat) : Sp d me_C_letsTake [.ref ad] h (some (.int (b2i true))) h := by
  refine Sp.of ok_C_letsTake (b2i_rc _) rfl ?_
  refine Ev.go 1 rfl ?_
  exact Ev.reti rfl (rfl)
theorem e_U_letsTake (d : Nat) (h : sn_H) (ad : Nat) : Sp d me_U_letsTake [.ref ad] h (some (.int (b2i true))) h := by
  refine Sp.of ok_U_letsTake (b2i_rc _) rfl ?_
  refine Ev.go 1 rfl ?_
  exact Ev.reti rfl (rfl)
theorem e_B_letsTake (d : Nat) (h : sn_H) (ad : Nat) : Sp d me_B_letsTake [.ref ad] h (some (.int (b2i false))) h := by
  refine Sp.of ok_B_letsTake (b2i_rc _) rfl ?_
  refine Ev.go 1 rfl ?_
  exact Ev.reti rfl (rfl)
