/-! THE CLASS: law -/
theorem e_W_init (d : Nat) {h : sn_H} {ad : Nat} {v0 v1 : Value} (hL : h[ad]? = some (.inr (2, [v0, v1]))) (x y : Int32) : Sp (d + 1) me_W_init [.ref ad, .int x, .int y] h none (h.set ad (.inr (2, [.int x, .int y]))) := by
  refine Sp.of ok_W_init trivial rfl ?_
  refine Ev.go 1 rfl ?_
  refine Ev.oi rfl lo_2_3 lo_i lo_c rfl ?_
  refine Ev.go 2 rfl ?_
  refine Ev.pf rfl lp_W_init_9_2 hL rfl rfl ?_
  have hL : (h.set ad (.inr (2, [.int x, v1])))[ad]? = some (.inr (2, [.int x, v1])) := List.getElem?_set_self (cell_lt hL)
  refine Ev.go 2 rfl ?_
  refine Ev.pf rfl lp_W_init_15_2 hL rfl rfl ?_
  rw [List.set_set]
  exact Ev.retv rfl
theorem XO.c3 {h : sn_H} {μ : sn_S} {fl fb : Nat → Option Nat} {ad ru : Nat → Nat} {cv : Value} (o : XO h μ fl fb ad ru cv) : C3 h := ⟨⟨_, o.1⟩, ⟨_, o.2.1⟩, ⟨_, o.2.2.1⟩⟩
theorem XO.addL {h h' : sn_H} {μ : sn_S} {fl fb : Nat → Option Nat} {ad ru : Nat → Nat} {cv : Value} (ws : WS μ) (o : XO h μ fl fb ad ru cv) {a b : Nat} (g : GR h h') (k1 : h'[1]? = some (.inr (0, [.ref 2, .int (nI ((sw μ).1 + 1)), .ref 3, .int (nI (snb μ)), .ref 4, cv]))) (k2 : h'[2]? = some (.inl (3, 8, .inr (.inr (.inr (.inr (va_up fl (sw μ).1 (some h.length)))))))) (k3 : h'[3]? = h[3]?) (k4 : h'[h.length]? = some (.inr (2, [.int (nI a), .int (nI b)]))) : XO h' (addL μ a b) (va_up fl (sw μ).1 (some h.length)) fb ad ru cv := by
  have c := o.c3
  obtain ⟨o1, o2, o3, o4, o5, o6, o7, o8⟩ := o
  refine ⟨k1, k2, by rw [k3]; exact o3, o4.gr g (by omega), o5.gr g, fun l hl => ?_, fun k hk => ?_, o8⟩
  · have hl : l < (sw μ).1 + 1 := hl
    by_cases e : l = (sw μ).1
    · subst e
      refine ⟨h.length, va_up_self _ _ _, ?_⟩
      rw [k4]
      show _ = some (Sum.inr (2, [Value.int (nI (uN (sw μ).2.1 (sw μ).1 a (sw μ).1)), Value.int (nI (uN (sw μ).2.2 (sw μ).1 b (sw μ).1))]))
      unfold uN
      rw [if_pos rfl, if_pos rfl]
    · obtain ⟨c1, e1, e2⟩ := o6 l (by omega)
      refine ⟨c1, (va_up_ne _ _ e).trans e1, ?_⟩
      show _ = some (Sum.inr (2, [Value.int (nI (uN (sw μ).2.1 (sw μ).1 a l)), Value.int (nI (uN (sw μ).2.2 (sw μ).1 b l))]))
      unfold uN
      rw [if_neg e, if_neg e]
      exact g.law c e2
  · obtain ⟨e1, e2, e3⟩ := o7 k hk
    have hb := ws.2.2 k hk
    refine ⟨e1, e2, e3.gr hb e2 c g (fun j hj => ?_)⟩
    have hn := (hb.nt ws.1 hj).1
    exact ⟨if_neg (by omega), if_neg (by omega)⟩
theorem p_X_law (d : Nat) {h : sn_H} {μ : sn_S} (q : XR h μ) (av bv : Int32) : SpP (d + 2) me_X_law [.ref 1, .int av, .int bv] h (PXi h (an_law μ av bv)) := by
  have q0 := q
  obtain ⟨ws, fl, fb, ad, ru, cw, o⟩ := q
  have hw8 := ws.1.1
  have hX := o.1
  generalize hz : an_law μ av bv = z
  refine SpP.of ok_X_law (fun r h' z => z.rc) rfl ?_
  refine EvP.s (fun _ _ K => Ev.go 2 rfl K) ?_
  refine EvP.br rfl rfl (fun c2 => ?_) (fun c2 => ?_)
  · refine EvP.s (fun _ _ K => Ev.go 1 rfl K) ?_
    refine ⟨_, _, Ev.reti rfl rfl, ?_⟩
    refine PXi.mk q0 (LW.refl _) (GB.refl _) ?_
    rw [← hz]; unfold an_law; rw [if_pos (fun z => by rw [ltn _ (by omega)] at c2; omega)]
  refine EvP.s (fun _ _ K => Ev.go 2 rfl K) ?_
  refine EvP.br rfl rfl (fun c8 => ?_) (fun c8 => ?_)
  · refine EvP.s (fun _ _ K => Ev.go 1 rfl K) ?_
    refine ⟨_, _, Ev.reti rfl rfl, ?_⟩
    refine PXi.mk q0 (LW.refl _) (GB.refl _) ?_
    rw [← hz]; unfold an_law; rw [if_pos (fun z => by rw [len_ _ (by omega)] at c8; omega)]
  refine EvP.s (fun _ _ K => Ev.go 1 rfl K) ?_
  refine EvP.br rfl rfl (fun c12 => ?_) (fun c12 => ?_)
  · refine EvP.s (fun _ _ K => Ev.go 1 rfl K) ?_
    refine ⟨_, _, Ev.reti rfl rfl, ?_⟩
    refine PXi.mk q0 (LW.refl _) (GB.refl _) ?_
    rw [← hz]; unfold an_law; rw [if_pos (fun z => by rw [lt0] at c12; have := z.2.1; omega)]
  refine EvP.s (fun _ _ K => Ev.go 2 rfl K) ?_
  refine EvP.br rfl rfl (fun c18 => ?_) (fun c18 => ?_)
  · rw [ltn _ (by omega)] at c2
    rw [len_ _ (by omega)] at c8
    rw [lt0] at c12
    rw [ltn _ (by omega)] at c18
    have hr : (1 ≤ av.toInt ∧ av.toInt ≤ 36) ∧ rg bv 37 := ⟨by omega, by unfold rg; omega⟩
    obtain ⟨a, ha1, ha2, rfl⟩ := rg_ex (x := av) (n := 37) ⟨by omega, by omega⟩
    obtain ⟨b, hb1, hb2, rfl⟩ := rg_ex hr.2
    have ha3 := hr.1.1
    rw [nI_toInt ha2] at ha3
    refine EvP.s (fun _ _ K => Ev.go 1 rfl K) ?_
    refine EvP.s (fun _ _ K => Ev.gf rfl lf_0_15_0 hX rfl K) ?_
    refine EvP.s (fun _ _ K => Ev.go 1 rfl K) ?_
    refine EvP.ilt rfl rfl rfl (by omega) (by omega) (fun c30 => ?_) (fun c30 => ?_)
    · refine EvP.s (fun _ _ K => Ev.go 1 rfl K) ?_
      refine EvP.s (fun _ _ K => Ev.gf rfl lf_0_11_0 hX rfl K) ?_
      refine EvP.s (fun _ _ K => Ev.go 1 rfl K) ?_
      refine EvP.s (fun _ _ K => Ev.gf rfl lf_0_15_0 hX rfl K) ?_
      refine EvP.s (fun _ _ K => Ev.nw rfl lc_0_9 K) ?_
      refine EvP.s (fun _ _ K => Ev.go 3 rfl K) ?_
      refine EvP.s (fun _ _ K => Ev.ci (E' := me_W_init) rfl mk_W_init li_0_36 rfl (by have := cell_lt o.1; omega) rfl (e_W_init d (List.getElem?_append_right (Nat.le_refl _) |>.trans (by rw [Nat.sub_self]; rfl)) _ _) K) ?_
      rw [List.set_append_right _ _ (Nat.le_refl _), Nat.sub_self]
      have h3l := cell_lt o.2.2.1
      have hX : (h ++ [Sum.inr (2, [Value.int (nI a), Value.int (nI b)])])[1]? = some (.inr (0, [.ref 2, .int (nI (sw μ).1), .ref 3, .int (nI (snb μ)), .ref 4, cw])) := by rw [List.getElem?_append_left (by omega)]; exact o.1
      have hT : (h ++ [Sum.inr (2, [Value.int (nI a), Value.int (nI b)])])[2]? = some (.inl (3, 8, .inr (.inr (.inr (.inr fl))))) := by rw [List.getElem?_append_left (by omega)]; exact o.2.1
      have hN : (h ++ [Sum.inr (2, [Value.int (nI a), Value.int (nI b)])])[h.length]? = some (.inr (2, [.int (nI a), .int (nI b)])) := by rw [List.getElem?_append_right (Nat.le_refl _), Nat.sub_self]; rfl
      refine EvP.s (fun _ _ K => Ev.asn rfl lg_2 (by decide) hT hN rfl (by omega) (by omega) K) ?_
      have hX : ((h ++ [Sum.inr (2, [Value.int (nI a), Value.int (nI b)])]).set 2 (Sum.inl (3, 8, Sum.inr (Sum.inr (Sum.inr (Sum.inr (va_up fl (sw μ).1 (some h.length))))))))[1]? = some (.inr (0, [.ref 2, .int (nI (sw μ).1), .ref 3, .int (nI (snb μ)), .ref 4, cw])) := by rw [List.getElem?_set_ne (by omega)]; exact hX
      have hXb := hX
      refine EvP.s (fun _ _ K => Ev.go 2 rfl K) ?_
      refine EvP.s (fun _ _ K => Ev.gf rfl lf_0_15_0 hX rfl K) ?_
      refine EvP.s (fun _ _ K => Ev.go 2 rfl K) ?_
      refine EvP.s (fun _ _ K => Ev.pf rfl lp_X_law_15_0 hX rfl rfl K) ?_
      have hX : (((h ++ [Sum.inr (2, [Value.int (nI a), Value.int (nI b)])]).set 2 (Sum.inl (3, 8, Sum.inr (Sum.inr (Sum.inr (Sum.inr (va_up fl (sw μ).1 (some h.length)))))))).set 1 (Sum.inr (0, [.ref 2, .int (nI (sw μ).1 + nI 1), .ref 3, .int (nI (snb μ)), .ref 4, cw])))[1]? = some (.inr (0, [.ref 2, .int (nI (sw μ).1 + nI 1), .ref 3, .int (nI (snb μ)), .ref 4, cw])) := List.getElem?_set_self (cell_lt hX)
      refine EvP.s (fun _ _ K => Ev.go 1 rfl K) ?_
      refine EvP.s (fun _ _ K => Ev.gf rfl lf_0_15_0 hX rfl K) ?_
      refine EvP.s (fun _ _ K => Ev.go 2 rfl K) ?_
      refine ⟨_, _, Ev.reti rfl rfl, ?_⟩
      have ev : nI (sw μ).1 + nI 1 - nI 1 = nI (sw μ).1 := by simp
      rw [ev]
      have o2 := o.addL ws (a := a) (b := b) (h' := (((h ++ [Sum.inr (2, [Value.int (nI a), Value.int (nI b)])]).set 2 (Sum.inl (3, 8, Sum.inr (Sum.inr (Sum.inr (Sum.inr (va_up fl (sw μ).1 (some h.length)))))))).set 1 (Sum.inr (0, [.ref 2, .int (nI (sw μ).1 + nI 1), .ref 3, .int (nI (snb μ)), .ref 4, cw])))) (fun i hi hl => by rw [List.getElem?_set_ne (by omega), List.getElem?_set_ne (by omega), List.getElem?_append_left hl]) (by rw [hX, nI_add]) (by rw [List.getElem?_set_ne (by omega)]; exact List.getElem?_set_self (cell_lt hT)) (by rw [List.getElem?_set_ne (by omega), List.getElem?_set_ne (by omega), List.getElem?_append_left (by omega)]) (by rw [List.getElem?_set_ne (by omega), List.getElem?_set_ne (by omega)]; exact hN)
      have gb : GB h (((h ++ [Sum.inr (2, [Value.int (nI a), Value.int (nI b)])]).set 2 (Sum.inl (3, 8, Sum.inr (Sum.inr (Sum.inr (Sum.inr (va_up fl (sw μ).1 (some h.length)))))))).set 1 (Sum.inr (0, [.ref 2, .int (nI (sw μ).1 + nI 1), .ref 3, .int (nI (snb μ)), .ref 4, cw]))) := ⟨by simp, by refine Nat.le_trans (Nat.le_of_eq (sn_hs_set hXb (by rfl))) (Nat.le_trans (Nat.le_of_eq (sn_hs_set hT (by rfl))) ?_); rw [sn_hs_app]; show _ + 2 ≤ _; omega⟩
      refine PXi.mk ⟨ws.addL c30 (by omega) (by omega), _, _, _, _, _, o2⟩ (fun i hi hl => ?_) gb ?_
      · rw [List.getElem?_set_ne (by omega), List.getElem?_set_ne (by omega), List.getElem?_append_left hl]
      · rw [← hz]; unfold an_law; rw [if_neg (fun z => z hr), if_neg (by omega), tn_nI ha2, tn_nI hb2]
    refine EvP.s (fun _ _ K => Ev.go 1 rfl K) ?_
    refine ⟨_, _, Ev.reti rfl rfl, ?_⟩
    refine PXi.mk q0 (LW.refl _) (GB.refl _) ?_
    rw [← hz]; unfold an_law; rw [if_neg (fun z => z hr), if_pos (by omega)]
  refine EvP.s (fun _ _ K => Ev.go 1 rfl K) ?_
  refine ⟨_, _, Ev.reti rfl rfl, ?_⟩
  refine PXi.mk q0 (LW.refl _) (GB.refl _) ?_
  rw [← hz]; unfold an_law; rw [if_pos (fun z => by rw [ltn _ (by omega)] at c18; have := z.2.2; omega)]
