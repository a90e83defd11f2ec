/-! THE CLASS: build -/
theorem FR.ne {h h' : sn_H} {w : sn_Lw} {b : sn_Bk} {ad : Nat} {T : List (Nat × Nat)} (q : FR h w b ad T) (g : ∀ c, ad + 3 ≤ c → h'[c]? = h[c]?) : FR h' w b ad T := by
  obtain ⟨⟨fB, q1, q2⟩, ⟨fK, q3, q4⟩, ⟨fP, q5, q6⟩, q7⟩ := q
  exact ⟨⟨fB, by rw [g _ (by omega)]; exact q1, q2⟩, ⟨fK, by rw [g _ (by omega)]; exact q3, q4⟩, ⟨fP, by rw [g _ (by omega)]; exact q5, q6⟩, q7⟩
theorem pel_ok {w : sn_Lw} {b : sn_Bk} : ∀ {n c : Nat} {T : List (Nat × Nat)}, pel w b n c = some T → ∀ e ∈ T, e.1 < 32 ∧ e.2 < bm b
  | 0, c, T, h => by
    unfold pel at h
    split at h
    · cases h; intro e he; cases he
    · cases h
  | n + 1, c, T, h => by
    unfold pel at h
    split at h
    · cases h; intro e he; cases he
    · split at h
      · cases h
      · rename_i p hl
        have hk := kyo_ok hl
        cases hq : pel w b n (andn c (2 ^ kyo w b c p)) with
        | none => rw [hq] at h; cases h
        | some U =>
          rw [hq] at h
          cases h
          intro e he
          rcases List.mem_cons.mp he with rfl | q
          · exact ⟨hk.2.1, hk.1⟩
          · exact pel_ok hq e q
theorem lay_lt {w : sn_Lw} {b : sn_Bk} {nl : Nat} (hb : WB nl b) : ∀ {n r s o : Nat} {T : List Nat}, lay w b n r s o = some T → ∀ v ∈ T, v < 2 ^ 32
  | 0, r, s, o, T, h => by
    unfold lay at h
    split at h
    · cases h; intro e he; cases he
    · cases h
  | n + 1, r, s, o, T, h => by
    unfold lay at h
    split at h
    · cases h; intro e he; cases he
    · cases hq : lay w b n (r + 1) (tin w b r (prow w b r s) o) s with
      | none => rw [hq] at h; cases h
      | some U =>
        rw [hq] at h
        cases h
        intro v hv
        rcases List.mem_cons.mp hv with rfl | q
        · exact prow_lt hb r s
        · exact lay_lt hb hq v q
theorem bld_wb {w : sn_Lw} {b c : sn_Bk} {n s o : Nat} (hb : WB n b) (h : bld w b s o = some c) : WB n c ∧ bk c = bk b := by
  unfold bld at h
  split at h
  · cases hq : pel w b 32 s with
    | none => rw [hq] at h; cases h
    | some T =>
      rw [hq] at h
      cases h
      have hf := fnu_le (w := w) hb T (fun e he => (pel_ok hq e he).2)
      exact ⟨hb.bnu hf.1 hf.2, rfl⟩
  · split at h
    · cases hq : lay w b 6 0 s o with
      | none => rw [hq] at h; cases h
      | some T =>
        rw [hq] at h
        cases h
        refine ⟨hb.bru (lay_len hq) (fun i => ?_), rfl⟩
        rw [List.getD_eq_getElem?_getD]
        cases hi : T[i]? with
        | none => show 0 < 2 ^ 32; omega
        | some v => exact lay_lt hb hq v (List.mem_of_getElem? hi)
    · cases h
theorem e_F_rebuild (d : Nat) {h : sn_H} {w : sn_Lw} {b : sn_Bk} {ad ru : Nat} (hw : WL w) (hb : WB w.1 b) (hR : BR h w b ad ru) (h4 : bk b = 4) {s0 : Nat} {sv0 ov0 : Int64} {o1 : Nat} (e1 : sv0 = lN s0) (e2 : ov0 = lN o1) (hs0 : s0 < 2 ^ 32) : SpP (d + 3) me_F_rebuild [.ref ad, .long sv0, .long ov0] h (PB h w b ad ru ((pel w b 32 s0).map fun T => bnu b (fnu w b T))) := by
  subst e1; subst e2
  have hbx : bex b ad = [.ref (ad + 3), .ref (ad + 4), .ref (ad + 5)] := by unfold bex; rw [if_neg (by omega), if_pos h4]
  have e7 : bln b = 6 := by unfold bln; rw [if_neg (by omega), if_pos h4]
  have hp32 := pcnt_le hs0
  generalize hz : ((pel w b 32 s0).map fun T => bnu b (fnu w b T)) = z
  obtain ⟨r2, h2, sp2, er, hA2, ⟨T2, hF2⟩, hs2⟩ := e_F_peel d hw hb hR h4 rfl hs0
  subst er
  have hR2 := hR.ofFR h4 hA2 hF2
  have hB := hR.1.1
  rw [h4, hbx] at hB
  refine SpP.of ok_F_rebuild (fun r h' z => z.rc) rfl ?_
  have L2 : ∀ T : List (Nat × Nat), pel w b 32 s0 = some T → T.length = pcnt s0 → ∀ (j : Nat) (h1 : sn_H) (iv : Int32) (v6 : Value), (j ≤ T.length) → (AG h h1 ad (bln b)) → (BR h1 w (bnu b (fnu w b (T.drop j))) ad ru) → (FR h1 w b ad T) → (iv = nI j - nI 1) → EvP o0 (d + 3) me_F_rebuild 44 [.ref ad, .long (lN s0), .retAddr 0, .long (lN o1), .retAddr 0, .int iv, v6] [] h1 (PB h w b ad ru z) := by
    intro T hG hTl j
    induction j using Nat.strongRecOn with
    | _ j ih =>
      intro h1 iv v6 hj hA hR1 hFR e3
      subst e3
      have hB0 := hR1.1.1
      have hB := hB0
      rw [show bk (bnu b (fnu w b (T.drop j))) + 3 = 7 by show bk b + 3 = 7; omega, show bex (bnu b (fnu w b (T.drop j))) ad = [.ref (ad + 3), .ref (ad + 4), .ref (ad + 5)] from hbx] at hB
      obtain ⟨fN, hN, hn⟩ := id hR1.2.1
      obtain ⟨⟨fB, hFB, hfB⟩, ⟨fK, hFK, hfK⟩, ⟨fP, hFP, hfP⟩, hTb⟩ := id hFR
      refine EvP.s (fun _ _ K => Ev.go 1 rfl K) ?_
      refine EvP.br rfl rfl (fun c46 => ?_) (fun c46 => ?_)
      · refine EvP.s (fun _ _ K => Ev.go 1 rfl K) ?_
        refine ⟨_, _, Ev.reti rfl rfl, ?_⟩
        have hj0 : j = 0 := by
          by_cases e : j = 0
          · exact e
          · exfalso
            rw [pk_sub (by omega)] at c46
            exact nI_pos (by omega) c46
        subst hj0
        refine ⟨by rw [← hz, hG]; rfl, hA, ?_⟩
        rw [← hz, hG]
        exact hR1
      have hj0 : j ≠ 0 := by
        intro e
        subst e
        exact c46 (by decide)
      obtain ⟨j, rfl⟩ : ∃ z, j = z + 1 := ⟨j - 1, by omega⟩
      have hjv : nI (j + 1) - nI 1 = nI j := by rw [pk_sub (by omega)]; rfl
      have hE := hTb _ (getD_mem (T := T) (j := j) (by omega))
      have hf := fnu_le (w := w) hb (T.drop (j + 1)) (fun e he => (hTb e (List.mem_of_mem_drop he)).2)
      have hwb := hb.bnu hf.1 hf.2
      have hm := hb.2.1
      refine EvP.s (fun _ _ K => Ev.go 1 rfl K) ?_
      refine EvP.s (fun _ _ K => Ev.gf rfl lf_7_15_7 hB rfl K) ?_
      refine EvP.s (fun _ _ K => Ev.go 1 rfl K) ?_
      refine EvP.s (fun _ _ K => Ev.iln rfl hFK hjv (by omega) (by omega) K) ?_
      rw [hfK j (by omega)]
      refine EvP.s (fun _ _ K => Ev.go 2 rfl K) ?_
      refine EvP.s (fun _ _ K => Ev.gf rfl lf_7_40_7 hB rfl K) ?_
      refine EvP.s (fun _ _ K => Ev.go 1 rfl K) ?_
      refine EvP.s (fun _ _ K => Ev.gf rfl lf_7_19_7 hB rfl K) ?_
      refine EvP.s (fun _ _ K => Ev.go 1 rfl K) ?_
      refine EvP.s (fun _ _ K => Ev.iln rfl hFP hjv (by omega) (by omega) K) ?_
      rw [hfP j (by omega)]
      refine EvP.s (fun _ _ K => Ev.go 2 rfl K) ?_
      refine EvP.s (fun _ _ K => Ev.gf rfl lf_7_9_7 hB rfl K) ?_
      refine EvP.s (fun _ _ K => Ev.go 1 rfl K) ?_
      refine EvP.s (fun _ _ K => Ev.lln rfl hFB rfl (by omega) (by omega) K) ?_
      rw [hfB _ hE.1]
      refine EvP.s (fun _ _ K => Ev.cv (E' := me_F_together) rfl mk_F_together lv_7_47_7 rfl hB rfl (e_F_together (d + 1) (b := bnu b (fnu w b (T.drop (j + 1)))) hwb hB0 h4 hR1.2.1 rfl (pls_lt (w := w) hb _)) K) ?_
      have htx : xof (fun i => if (pls w b (T.getD j (0, 0)).1).testBit i then bn (bnu b (fnu w b (T.drop (j + 1)))) i else 0) (bm (bnu b (fnu w b (T.drop (j + 1))))) = tog w (bnu b (fnu w b (T.drop (j + 1)))) (T.getD j (0, 0)).1 := tog_xof hwb h4 _
      rw [htx]
      refine EvP.s (fun _ _ K => Ev.go 2 rfl K) ?_
      refine EvP.s (fun _ _ K => Ev.cv (E' := me_F_markOf) rfl mk_F_markOf lv_7_51_7 rfl hB rfl (e_F_markOf (d + 1) (b := bnu b (fnu w b (T.drop (j + 1)))) hw hwb hR1.1 h4 rfl hE.1) K) ?_
      refine EvP.s (fun _ _ K => Ev.go 1 rfl K) ?_
      rw [fb_xorI]
      refine EvP.s (fun _ _ K => Ev.isn rfl hN rfl (by omega) (by omega) K) ?_
      refine EvP.s (fun _ _ K => Ev.go 2 rfl K) ?_
      have hR2 := hR1.num hN (i := (T.getD j (0, 0)).2) (v := tog w (bnu b (fnu w b (T.drop (j + 1)))) (T.getD j (0, 0)).1 ^^^ mrk w b 0 (T.getD j (0, 0)).1) rfl
      have hl := bln_3 b
      refine ih j (by omega) _ _ _ (by omega) (hA.trans (AG.set h1 _ (by omega) (by omega))) ?_ (hFR.ne (fun c hc => List.getElem?_set_ne (by omega))) (show nI (j + 1) - nI 1 - nI 1 = nI j - nI 1 from by rw [hjv])
      rw [drop_get (T := T) (j := j) (by omega)]
      exact hR2
  have L1 : ∀ T : List (Nat × Nat), pel w b 32 s0 = some T → T.length = pcnt s0 → ∀ (n : Nat) (h1 : sn_H) (g : Nat → Nat) (i : Nat) (iv : Int32) (v6 : Value), (i + n = bm b) → (AG h h1 ad (bln b)) → (BR h1 w (bnu b g) ad ru) → (FR h1 w b ad T) → (∀ j, g j = if j < i then 0 else bn b j) → (iv = nI i) → EvP o0 (d + 3) me_F_rebuild 13 [.ref ad, .long (lN s0), .retAddr 0, .long (lN o1), .retAddr 0, .int iv, v6] [] h1 (PB h w b ad ru z) := by
    intro T hG hTl n
    induction n using Nat.strongRecOn with
    | _ n ih =>
      intro h1 g i iv v6 k1 hA hR1 hFR hg e3
      subst e3
      have hB0 := hR1.1.1
      have hB := hB0
      rw [show bk (bnu b g) + 3 = 7 by show bk b + 3 = 7; omega, show bex (bnu b g) ad = [.ref (ad + 3), .ref (ad + 4), .ref (ad + 5)] from hbx] at hB
      obtain ⟨fN, hN, hn⟩ := id hR1.2.1
      obtain ⟨⟨fB, hFB, hfB⟩, ⟨fK, hFK, hfK⟩, ⟨fP, hFP, hfP⟩, hTb⟩ := id hFR
      have hm := hb.2.1
      refine EvP.s (fun _ _ K => Ev.go 2 rfl K) ?_
      refine EvP.s (fun _ _ K => Ev.gf rfl lf_7_32_7 hB rfl K) ?_
      refine EvP.ige rfl rfl rfl (by omega) (by show bm b < _; omega) (fun c19 => ?_) (fun c19 => ?_)
      · have c19 : bm b ≤ i := c19
        refine EvP.s (fun _ _ K => Ev.go 1 rfl K) ?_
        refine EvP.s (fun _ _ K => Ev.cs (E' := me_JL_bitCount) rfl mk_JL_bitCount ls_7_58 rfl rfl (e_JL_bitCount (d + 2) _ rfl hs0) K) ?_
        refine EvP.s (fun _ _ K => Ev.go 3 rfl K) ?_
        have hR3 : BR h1 w (bnu b (fnu w b (T.drop T.length))) ad ru := BR.ncong (b := b) hR1 (fun j _ => by
          show g j = fnu w b (T.drop T.length) j
          rw [hg j, List.drop_length]
          by_cases e : j < i
          · rw [if_pos e]; rfl
          · rw [if_neg e, hb.2.2.2.2.2.2.2.2.1 j (by omega)]; rfl)
        exact L2 T hG hTl T.length h1 _ _ (Nat.le_refl _) hA hR3 hFR (by rw [hTl])
      have c19 : i < bm b := c19
      refine EvP.s (fun _ _ K => Ev.go 1 rfl K) ?_
      refine EvP.s (fun _ _ K => Ev.gf rfl lf_7_40_7 hB rfl K) ?_
      refine EvP.s (fun _ _ K => Ev.go 2 rfl K) ?_
      refine EvP.s (fun _ _ K => Ev.isn rfl hN rfl (by omega) (by omega) K) ?_
      refine EvP.s (fun _ _ K => Ev.go 2 rfl K) ?_
      have hR2 := hR1.num hN (i := i) (v := 0) rfl
      have hl := bln_3 b
      exact ih (n - 1) (by omega) _ _ (i + 1) _ _ (by omega) (hA.trans (AG.set h1 _ (by omega) (by omega))) hR2 (hFR.ne (fun c hc => List.getElem?_set_ne (by omega))) (fun j => by
        by_cases e : j = i
        · subst e; rw [if_pos (by omega)]; exact if_pos rfl
        · rw [show uN (bn (bnu b g)) i 0 j = g j from if_neg e, hg j]
          by_cases e2 : j < i
          · rw [if_pos e2, if_pos (by omega)]
          · rw [if_neg e2, if_neg (by omega)]) (by rw [nI_add])
  refine EvP.s (fun _ _ K => Ev.go 2 rfl K) ?_
  refine EvP.s (fun _ _ K => Ev.cv (E' := me_F_peel) rfl mk_F_peel lv_7_54_7 rfl hB rfl (sp2) K) ?_
  refine EvP.zn rfl rfl (fun c5 => ?_) (fun c5 => ?_)
  · refine EvP.s (fun _ _ K => Ev.go 2 rfl K) ?_
    obtain ⟨T, hT⟩ : ∃ T, pel w b 32 s0 = some T := Option.isSome_iff_exists.mp c5
    obtain ⟨hFR, hTl⟩ := hs2 T hT
    exact L1 T hT hTl (bm b) h2 (bn b) 0 _ _ (by omega) (hA2.mono (by omega) (by omega)) hR2 hFR (fun j => by rw [if_neg (Nat.not_lt_zero j)]) rfl
  refine EvP.s (fun _ _ K => Ev.go 1 rfl K) ?_
  refine ⟨_, _, Ev.reti rfl rfl, ?_⟩
  have en : pel w b 32 s0 = none := by cases e : pel w b 32 s0 with | none => rfl | some _ => rw [e] at c5; cases c5
  rw [en] at hz
  have hz : none = z := hz
  subst hz
  exact ⟨rfl, hA2.mono (by omega) (by omega), hR2⟩
theorem e_B_rebuild (d : Nat) (h : sn_H) (ad : Nat) (sv ov : Int64) : Sp d me_B_rebuild [.ref ad, .long sv, .long ov] h (some (.int (b2i false))) h := by
  refine Sp.of ok_B_rebuild (b2i_rc _) rfl ?_
  refine Ev.go 1 rfl ?_
  exact Ev.reti rfl (rfl)
theorem v_rebuild (d : Nat) {h : sn_H} {w : sn_Lw} {b : sn_Bk} {ad ru : Nat} (hw : WL w) (hb : WB w.1 b) (hR : BR h w b ad ru) {s0 o1 : Nat} {sv0 ov0 : Int64} (e1 : sv0 = lN s0) (e2 : ov0 = lN o1) (hs0 : s0 < 2 ^ 32) (ho1 : o1 < 2 ^ 32) : SpP (d + 3) (vt_rebuild (bk b + 3)) [.ref ad, .long sv0, .long ov0] h (PB h w b ad ru (bld w b s0 o1)) := by
  by_cases h4 : bk b = 4
  · rw [show vt_rebuild (bk b + 3) = me_F_rebuild by rw [h4]; rfl, show bld w b s0 o1 = _ from if_pos h4]
    exact e_F_rebuild d hw hb hR h4 e1 e2 hs0
  · by_cases h5 : bk b = 5
    · rw [show vt_rebuild (bk b + 3) = me_L_rebuild by rw [h5]; rfl, show bld w b s0 o1 = _ from (if_neg h4).trans (if_pos h5)]
      exact e_L_rebuild d hw hb hR h5 e1 e2 hs0 ho1
    · have hk : bk b = 0 ∨ bk b = 1 ∨ bk b = 2 ∨ bk b = 3 := by have := hb.1; omega
      rw [show vt_rebuild (bk b + 3) = me_B_rebuild by rcases hk with e | e | e | e <;> rw [e] <;> rfl, show bld w b s0 o1 = none from (if_neg h4).trans (if_neg h5)]
      exact ⟨_, _, e_B_rebuild (d + 3) h ad sv0 ov0, rfl, AG.refl _ _ _, hR⟩
theorem p_X_build (d : Nat) {h : sn_H} {μ : sn_S} (q : XR h μ) (kv : Int32) (sv ov : Int64) : SpP (d + 4) me_X_build [.ref 1, .int kv, .long sv, .long ov] h (PXi h (an_build μ kv sv ov)) := by
  have q0 := q
  obtain ⟨ws, fl, fb, ad, ru, cw, o⟩ := q
  have hX := o.1
  refine SpP.of ok_X_build (fun r h' z => z.rc) rfl ?_
  have L : ∀ (k s o1 : Nat) (c : sn_Bk), k < snb μ → s < 2 ^ 32 → bld (sw μ) (sbk μ k) s o1 = some c → ∀ (n : Nat) (h1 : sn_H) (g : Nat → Nat) (i : Nat) (iv : Int32), (i + n = 32) → (AG h h1 (ad k) (bln (sbk μ k))) → (BR h1 (sw μ) (btu c g) (ad k) (ru k)) → (∀ j, j < i → g j = if s.testBit j then 1 else 0) → (iv = nI i) → EvP o0 (d + 4) me_X_build 75 [.ref 1, .int kv, .long (lN s), .retAddr 0, .long (lN o1), .retAddr 0, .ref (ad k), .int iv] [] h1 (PXi h (nI (pcnt s), setB μ k (btu c (fun x => if s.testBit x then 1 else 0)))) := by
    intro k s o1 c hk1 hs hbl n
    have hb := ws.2.2 k hk1
    obtain ⟨_, h27, hR⟩ := o.2.2.2.2.2.2.1 k hk1
    have hci : sn_bk (bk c + 3) := sn_bk_of (by rw [(bld_wb hb hbl).2]; exact hb.1)
    induction n using Nat.strongRecOn with
    | _ n ih =>
      intro h1 g i iv k1 hA hR1 hg e3
      subst e3
      have hB := hR1.1.1
      obtain ⟨fT, hT, _⟩ := id hR1.2.2.1
      have hl := bln_3 (sbk μ k)
      refine EvP.s (fun _ _ K => Ev.go 2 rfl K) ?_
      refine EvP.ige rfl rfl rfl (by omega) (by omega) (fun c79 => ?_) (fun c79 => ?_)
      · refine EvP.s (fun _ _ K => Ev.go 1 rfl K) ?_
        refine EvP.s (fun _ _ K => Ev.cs (E' := me_JL_bitCount) rfl mk_JL_bitCount ls_0_123 rfl rfl (e_JL_bitCount (d + 3) _ rfl hs) K) ?_
        refine ⟨_, _, Ev.reti rfl rfl, ?_⟩
        have hR2 := hR1.tcong (g' := fun x => if s.testBit x then 1 else 0) (fun j hj => hg j (by omega))
        have hwc : WB (sw μ).1 (btu c (fun x => if s.testBit x then 1 else 0)) := (bld_wb hb hbl).1.btu (fun i => by split <;> omega)
        have o2 := o.chg ws hk1 (b' := btu c (fun x => if s.testBit x then 1 else 0)) (bld_wb hb hbl).2 hA hR2
        exact PXi.mk ⟨WS.setB (μ := μ) ws hwc, _, _, _, _, _, o2⟩ (hA.lw h27) (GB.ag hR hR2 (bld_wb hb hbl).2 hA) rfl
      refine EvP.s (fun _ _ K => Ev.go 1 rfl K) ?_
      refine EvP.s (fun _ _ K => Ev.gf rfl (lfb_0_153 (hci)) hB rfl K) ?_
      refine EvP.s (fun _ _ K => Ev.go 3 rfl K) ?_
      refine EvP.s (fun _ _ K => Ev.cs (E' := me_X_has) rfl mk_X_has ls_0_57 rfl rfl (e_X_has (d + 3) _ rfl rfl (by omega) (by omega)) K) ?_
      refine EvP.zb rfl rfl (fun c95 => ?_) (fun c95 => ?_)
      · refine EvP.s (fun _ _ K => Ev.go 1 rfl K) ?_
        refine EvP.s (fun _ _ K => Ev.isn rfl hT rfl (by omega) (by omega) K) ?_
        refine EvP.s (fun _ _ K => Ev.go 2 rfl K) ?_
        have hR2 := hR1.tim hT (i := i) (v := if s.testBit i then 1 else 0) (x := nI 0) (by rw [c95]; rfl)
        exact ih (n - 1) (by omega) _ _ (i + 1) _ (by omega) (hA.trans (AG.set h1 _ (by omega) (by omega))) hR2 (fun j hj => by
          by_cases e : j = i
          · subst e; exact if_pos rfl
          · exact (if_neg e).trans (hg j (by omega))) (by rw [nI_add])
      refine EvP.s (fun _ _ K => Ev.go 2 rfl K) ?_
      refine EvP.s (fun _ _ K => Ev.isn rfl hT rfl (by omega) (by omega) K) ?_
      refine EvP.s (fun _ _ K => Ev.go 2 rfl K) ?_
      have hR2 := hR1.tim hT (i := i) (v := if s.testBit i then 1 else 0) (x := nI 1) (by rw [c95]; rfl)
      exact ih (n - 1) (by omega) _ _ (i + 1) _ (by omega) (hA.trans (AG.set h1 _ (by omega) (by omega))) hR2 (fun j hj => by
        by_cases e : j = i
        · subst e; exact if_pos rfl
        · exact (if_neg e).trans (hg j (by omega))) (by rw [nI_add])
  generalize hz : an_build μ kv sv ov = z
  by_cases hk : rg kv (snb μ)
  · obtain ⟨k, hk1, hk2, rfl⟩ := rg_ex hk
    obtain ⟨_, h27, hR⟩ := o.2.2.2.2.2.2.1 k hk1
    have hb := ws.2.2 k hk1
    have hB := hR.1.1
    have h5 := hb.1
    have hci : sn_bk (bk (sbk μ k) + 3) := sn_bk_of hb.1
    refine EvP.s (fun _ _ K => Ev.go 2 rfl K) ?_
    refine EvP.s (fun _ _ K => Ev.cv (E' := me_X_find) rfl mk_X_find lv_0_102_0 rfl hX rfl (e_X_find_y (d + 3) ws o rfl hk1) K) ?_
    refine EvP.s (fun _ _ K => Ev.go 2 rfl K) ?_
    refine EvP.s (fun _ _ K => Ev.p rfl rfl trivial K) ?_
    refine EvP.s (fun _ _ K => Ev.go 1 rfl K) ?_
    refine EvP.s (fun _ _ K => Ev.cs (E' := me_X_isSet) rfl mk_X_isSet ls_0_50 rfl rfl (e_X_isSet (d + 3) _ _) K) ?_
    refine EvP.zb rfl rfl (fun c19 => ?_) (fun c19 => ?_)
    · refine EvP.s (fun _ _ K => Ev.go 1 rfl K) ?_
      refine ⟨_, _, Ev.reti rfl rfl, ?_⟩
      refine PXi.mk q0 (LW.refl _) (GB.refl _) ?_
      rw [← hz]; unfold an_build; rw [tn_nI hk2, if_neg (fun z => z hk), if_pos (fun z => ofn c19 z.1)]
    refine EvP.s (fun _ _ K => Ev.go 1 rfl K) ?_
    refine EvP.s (fun _ _ K => Ev.cs (E' := me_X_isSet) rfl mk_X_isSet ls_0_50 rfl rfl (e_X_isSet (d + 3) _ _) K) ?_
    refine EvP.zb rfl rfl (fun c27 => ?_) (fun c27 => ?_)
    · refine EvP.s (fun _ _ K => Ev.go 1 rfl K) ?_
      refine ⟨_, _, Ev.reti rfl rfl, ?_⟩
      refine PXi.mk q0 (LW.refl _) (GB.refl _) ?_
      rw [← hz]; unfold an_build; rw [tn_nI hk2, if_neg (fun z => z hk), if_pos (fun z => ofn c27 z.2.1)]
    obtain ⟨s, hs, rfl⟩ := sg_ex (ofd c19)
    obtain ⟨o1, ho, rfl⟩ := sg_ex (ofd c27)
    refine EvP.s (fun _ _ K => Ev.go 4 rfl K) ?_
    refine EvP.lne rfl rfl (fb_andL _ _) rfl (Nat.lt_of_le_of_lt Nat.and_le_left (by omega)) (by omega) (fun c35 => ?_) (fun c35 => ?_)
    · refine EvP.s (fun _ _ K => Ev.go 1 rfl K) ?_
      refine ⟨_, _, Ev.reti rfl rfl, ?_⟩
      refine PXi.mk q0 (LW.refl _) (GB.refl _) ?_
      rw [← hz]; unfold an_build; rw [tn_nI hk2, if_neg (fun z => z hk), ts_lN hs, ts_lN ho, if_pos (fun z => c35 z.2.2.1)]
    refine EvP.s (fun _ _ K => Ev.go 1 rfl K) ?_
    refine EvP.s (fun _ _ K => Ev.gf rfl (lfb_0_110 (hci)) hB rfl K) ?_
    refine EvP.s (fun _ _ K => Ev.go 1 rfl K) ?_
    refine EvP.ine rfl rfl rfl (by omega) (by omega) (fun c45 => ?_) (fun c45 => ?_)
    · have hko : bk (sbk μ k) = 4 → o1 = 0 := by first | exact fun e => absurd e c45 | exact fun _ => c51
      obtain ⟨r2, h2, sp2, er, hA2, hR2⟩ := v_rebuild d ws.1 hb hR rfl rfl hs ho
      subst er
      refine EvP.s (fun _ _ K => Ev.go 3 rfl K) ?_
      refine EvP.s (fun _ _ K => Ev.cv (E' := vt_rebuild (bk (sbk μ k) + 3)) rfl (mkb_rebuild hci) (lvb_0_169 hci) rfl hB rfl (sp2) K) ?_
      refine EvP.zn rfl rfl (fun c66 => ?_) (fun c66 => ?_)
      · refine EvP.s (fun _ _ K => Ev.go 2 rfl K) ?_
        obtain ⟨c, hc⟩ : ∃ c, bld (sw μ) (sbk μ k) s o1 = some c := Option.isSome_iff_exists.mp c66
        rw [hc] at hR2
        rw [← hz]
        have hu : an_build μ (nI k) (lN s) (lN o1) = (nI (pcnt s), setB μ k (btu c (fun x => if s.testBit x then 1 else 0))) := by
          unfold an_build; rw [tn_nI hk2, if_neg (fun z => z hk), ts_lN hs, ts_lN ho, if_neg (fun z => z ⟨ofd c19, ofd c27, c35, hko⟩), hc]
        rw [hu]
        exact L k s o1 c hk1 hs hc 32 h2 (bt c) 0 _ (by omega) hA2 hR2 (fun j hj => absurd hj (Nat.not_lt_zero j)) rfl
      refine EvP.s (fun _ _ K => Ev.go 1 rfl K) ?_
      refine ⟨_, _, Ev.reti rfl rfl, ?_⟩
      have en : bld (sw μ) (sbk μ k) s o1 = none := by cases e : bld (sw μ) (sbk μ k) s o1 with | none => rfl | some _ => rw [e] at c66; cases c66
      rw [en] at hR2
      have o2 := o.chg ws hk1 (b' := sbk μ k) rfl hA2 hR2
      rw [setB_id] at o2
      refine PXi.mk ⟨ws, _, _, _, _, _, o2⟩ (hA2.lw h27) (GB.ag hR hR2 rfl hA2) ?_
      rw [← hz]; unfold an_build; rw [tn_nI hk2, if_neg (fun z => z hk), ts_lN hs, ts_lN ho, if_neg (fun z => z ⟨ofd c19, ofd c27, c35, hko⟩), en]
    refine EvP.s (fun _ _ K => Ev.go 2 rfl K) ?_
    refine EvP.leq rfl rfl rfl rfl (by omega) (by omega) (fun c51 => ?_) (fun c51 => ?_)
    · have hko : bk (sbk μ k) = 4 → o1 = 0 := by first | exact fun e => absurd e c45 | exact fun _ => c51
      obtain ⟨r2, h2, sp2, er, hA2, hR2⟩ := v_rebuild d ws.1 hb hR rfl rfl hs ho
      subst er
      refine EvP.s (fun _ _ K => Ev.go 3 rfl K) ?_
      refine EvP.s (fun _ _ K => Ev.cv (E' := vt_rebuild (bk (sbk μ k) + 3)) rfl (mkb_rebuild hci) (lvb_0_169 hci) rfl hB rfl (sp2) K) ?_
      refine EvP.zn rfl rfl (fun c66 => ?_) (fun c66 => ?_)
      · refine EvP.s (fun _ _ K => Ev.go 2 rfl K) ?_
        obtain ⟨c, hc⟩ : ∃ c, bld (sw μ) (sbk μ k) s o1 = some c := Option.isSome_iff_exists.mp c66
        rw [hc] at hR2
        rw [← hz]
        have hu : an_build μ (nI k) (lN s) (lN o1) = (nI (pcnt s), setB μ k (btu c (fun x => if s.testBit x then 1 else 0))) := by
          unfold an_build; rw [tn_nI hk2, if_neg (fun z => z hk), ts_lN hs, ts_lN ho, if_neg (fun z => z ⟨ofd c19, ofd c27, c35, hko⟩), hc]
        rw [hu]
        exact L k s o1 c hk1 hs hc 32 h2 (bt c) 0 _ (by omega) hA2 hR2 (fun j hj => absurd hj (Nat.not_lt_zero j)) rfl
      refine EvP.s (fun _ _ K => Ev.go 1 rfl K) ?_
      refine ⟨_, _, Ev.reti rfl rfl, ?_⟩
      have en : bld (sw μ) (sbk μ k) s o1 = none := by cases e : bld (sw μ) (sbk μ k) s o1 with | none => rfl | some _ => rw [e] at c66; cases c66
      rw [en] at hR2
      have o2 := o.chg ws hk1 (b' := sbk μ k) rfl hA2 hR2
      rw [setB_id] at o2
      refine PXi.mk ⟨ws, _, _, _, _, _, o2⟩ (hA2.lw h27) (GB.ag hR hR2 rfl hA2) ?_
      rw [← hz]; unfold an_build; rw [tn_nI hk2, if_neg (fun z => z hk), ts_lN hs, ts_lN ho, if_neg (fun z => z ⟨ofd c19, ofd c27, c35, hko⟩), en]
    refine EvP.s (fun _ _ K => Ev.go 1 rfl K) ?_
    refine ⟨_, _, Ev.reti rfl rfl, ?_⟩
    refine PXi.mk q0 (LW.refl _) (GB.refl _) ?_
    rw [← hz]; unfold an_build; rw [tn_nI hk2, if_neg (fun z => z hk), ts_lN hs, ts_lN ho, if_pos (fun z => c51 (z.2.2.2 c45))]
  · refine EvP.s (fun _ _ K => Ev.go 2 rfl K) ?_
    refine EvP.s (fun _ _ K => Ev.cv (E' := me_X_find) rfl mk_X_find lv_0_102_0 rfl hX rfl (e_X_find_n (d + 3) q0 hk) K) ?_
    refine EvP.s (fun _ _ K => Ev.go 2 rfl K) ?_
    refine EvP.s (fun _ _ K => Ev.p rfl rfl trivial K) ?_
    refine EvP.s (fun _ _ K => Ev.go 1 rfl K) ?_
    refine ⟨_, _, Ev.reti rfl rfl, ?_⟩
    refine PXi.mk q0 (LW.refl _) (GB.refl _) ?_
    rw [← hz]; unfold an_build; rw [if_pos hk]
