/-! THE CLASS: insert, remove -/
def PI (h : sn_H) (w : sn_Lw) (b : sn_Bk) (ad ru : Nat) (c : Bool) (g : Nat → Nat) (r : Option Value) (h' : sn_H) : Prop := r = some (.int (b2i c)) ∧ AG h h' ad (bln b) ∧ BR h' w (bnu b g) ad ru
theorem PI.rc {h : sn_H} {w : sn_Lw} {b : sn_Bk} {ad ru : Nat} {c : Bool} {g : Nat → Nat} {r : Option Value} {h' : sn_H} (q : PI h w b ad ru c g r h') : sn_rc (some .boolean) r := by
  obtain ⟨rfl, _⟩ := q; exact b2i_rc _
theorem e_P_insert (d : Nat) {h : sn_H} {w : sn_Lw} {b : sn_Bk} {ad ru : Nat} (hw : WL w) (hb : WB w.1 b) (hR : BR h w b ad ru) {y : Nat} {yv : Int32} (e1 : yv = nI y) (hy : y < 32) (hkd : bk b = 0 ∨ bk b = 2) : SpP (d + 3) me_P_insert [.ref ad, .int yv] h (PI h w b ad ru true (gput (bk b) (bm b) (pls w b y) (bn b))) := by
  subst e1
  have hm := hb.2.1
  have h7 := hb.2.2.2.2.2.2.2.1
  have hB := hR.1.1
  have hci : sn_pl (bk b + 3) := by unfold sn_pl; omega
  refine SpP.of ok_P_insert (fun r h' z => z.rc) rfl ?_
  have L : ∀ (n : Nat) (h1 : sn_H) (g : Nat → Nat) (i : Nat) (iv : Int32), (i + n = bm b) → (AG h h1 ad (bln b)) → (BR h1 w (bnu b g) ad ru) → (∀ j, g j = if j < i then gput (bk b) (bm b) (pls w b y) (bn b) j else bn b j) → (iv = nI i) → EvP o0 (d + 3) me_P_insert 9 [.ref ad, .int (nI y), .long (lN (pls w b y)), .retAddr 0, .int iv] [] h1 (PI h w b ad ru true (gput (bk b) (bm b) (pls w b y) (bn b))) := by
    intro n
    induction n using Nat.strongRecOn with
    | _ n ih =>
      intro h1 g i iv h2 hA hR1 hg e3
      subst e3
      have hB : h1[ad]? = some (.inr (bk b + 3, bfs b ad ru (bex b ad))) := hR1.1.1
      obtain ⟨f, hf, hfn⟩ := hR1.2.1
      have hl := bln_3 b
      refine EvP.s (fun _ _ K => Ev.go 2 rfl K) ?_
      refine EvP.s (fun _ _ K => Ev.gf rfl (lfb_3_13 (hci)) hB rfl K) ?_
      refine EvP.ige rfl rfl rfl (by omega) (by omega) (fun c15 => ?_) (fun c15 => ?_)
      · refine EvP.s (fun _ _ K => Ev.go 1 rfl K) ?_
        refine ⟨_, _, Ev.reti rfl rfl, ?_⟩
        have eg : g = gput (bk b) (bm b) (pls w b y) (bn b) := by
          funext j
          rw [hg j]
          by_cases e : j < i
          · rw [if_pos e]
          · rw [if_neg e]; unfold gput; rw [if_neg (fun z => by omega)]
        rw [eg] at hR1
        exact ⟨rfl, hA, hR1⟩
      refine EvP.s (fun _ _ K => Ev.go 2 rfl K) ?_
      refine EvP.s (fun _ _ K => Ev.cs (E' := me_X_has) rfl mk_X_has ls_3_33 rfl rfl (e_X_has (d + 2) _ rfl rfl (by have := pls_lt (w := w) hb y; omega) (by omega)) K) ?_
      refine EvP.zb rfl rfl (fun c24 => ?_) (fun c24 => ?_)
      · refine EvP.s (fun _ _ K => Ev.go 2 rfl K) ?_
        exact ih (n - 1) (by omega) _ _ (i + 1) _ (by omega) hA hR1 (fun j => by
          rw [hg j]
          by_cases e2 : j < i
          · rw [if_pos e2, if_pos (by omega)]
          · rw [if_neg e2]
            by_cases e : j = i
            · subst e; rw [if_pos (by omega)]; unfold gput; rw [if_neg (fun z => by rw [c24] at z; cases z.2)]
            · rw [if_neg (by omega)]) (by rw [nI_add])
      refine EvP.s (fun _ _ K => Ev.go 1 rfl K) ?_
      refine EvP.s (fun _ _ K => Ev.gf rfl (lfb_3_39 (hci)) hB rfl K) ?_
      refine EvP.s (fun _ _ K => Ev.go 2 rfl K) ?_
      refine EvP.s (fun _ _ K => Ev.isn rfl hf rfl (by omega) (by omega) K) ?_
      refine EvP.s (fun _ _ K => Ev.go 2 rfl K) ?_
      have hs := hR1.num hf (i := i) (v := gput (bk b) (bm b) (pls w b y) (bn b) i) (x := nI 1) (by unfold gput; rw [if_pos ⟨by omega, c24⟩, if_neg (by omega)])
      exact ih (n - 1) (by omega) _ _ (i + 1) _ (by omega) (hA.trans (AG.set h1 _ (by omega) (by omega))) hs (fun j => by
        by_cases e : j = i
        · subst e; rw [if_pos (by omega)]; exact if_pos rfl
        · rw [show uN (bn (bnu b g)) i (gput (bk b) (bm b) (pls w b y) (bn b) i) j = g j from if_neg e, hg j]
          by_cases e2 : j < i
          · rw [if_pos e2, if_pos (by omega)]
          · rw [if_neg e2, if_neg (by omega)]) (by rw [nI_add])
  refine EvP.s (fun _ _ K => Ev.go 2 rfl K) ?_
  refine EvP.s (fun _ _ K => Ev.cv (E' := vt_placeBits (bk b + 3)) rfl (mkb_placeBits (sn_pl_bk hci)) (lvb_3_23 hci) rfl hB rfl (v_placeBits d hw hb hR.1 rfl hy) K) ?_
  refine EvP.s (fun _ _ K => Ev.go 3 rfl K) ?_
  exact L (bm b) h (bn b) 0 _ (by omega) (AG.refl _ _ _) hR (fun j => rfl) rfl
