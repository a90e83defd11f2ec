/-! THE CLASS: join, halve -/
theorem BR.hse {h h' : sn_H} {w w' : sn_Lw} {b b' : sn_Bk} {ad ru ru' : Nat} (q : BR h w b ad ru) (q' : BR h' w' b' ad ru') (hk : bk b' = bk b) (g : AG h h' ad (bln b)) : sn_hs h' = sn_hs h := by
  refine sn_hs_eq (fun i => ?_)
  by_cases e : i < ad ∨ ad + bln b ≤ i
  · rw [g.2 i e]
  · exact q.sl q' hk (by omega) (by omega)
theorem BR.ncong {h : sn_H} {w : sn_Lw} {b : sn_Bk} {ad ru : Nat} {g g' : Nat → Nat} (q : BR h w (bnu b g) ad ru) (e : ∀ i, i < 32 → g i = g' i) : BR h w (bnu b g') ad ru := by
  obtain ⟨a, ⟨f, x, y⟩, c, z⟩ := q
  exact ⟨a, ⟨f, x, fun i hi => (y i hi).trans (congrArg nI (e i hi))⟩, c, z⟩
theorem BR.tcong {h : sn_H} {w : sn_Lw} {b : sn_Bk} {ad ru : Nat} {g g' : Nat → Nat} (q : BR h w (btu b g) ad ru) (e : ∀ i, i < 32 → g i = g' i) : BR h w (btu b g') ad ru := by
  obtain ⟨a, c, ⟨f, x, y⟩, z⟩ := q
  exact ⟨a, c, ⟨f, x, fun i hi => (y i hi).trans (congrArg nI (e i hi))⟩, z⟩
theorem kpt_gb {h h0 h1 : sn_H} {w : sn_Lw} {b b' : sn_Bk} {k m l ru ru' : Nat} {nl nb : Nat} {cv : Value} {fb : Nat → Option Nat} {a : Nat} (hk : k < 6) (e0 : h ++ nbc k m l ru h.length = h0) (q0 : BR h0 w b h.length ru') (q1 : BR h1 w b' h.length ru') (hkk : bk b' = bk b) (g : AG h0 h1 h.length (bln b)) {v1 v2 v3 v4 v5 v6 : Value} {fb' : Nat → Option Nat} (e1 : h1[1]? = some (.inr (0, [v1, v2, v3, v4, v5, v6]))) (e3 : h1[3]? = some (.inl (4, 8, .inr (.inr (.inr (.inr fb')))))) : GB h (kpt h1 nl nb cv fb a) := by
  have hs := q0.hse q1 hkk g
  have hn := nbc_hs k m l ru h.length hk
  have hl := g.1
  rw [← e0, List.length_append] at hl
  rw [← e0, sn_hs_appL] at hs
  refine ⟨?_, ?_⟩
  · rw [kpt_len]; omega
  · rw [kpt_hs e1 e3]; omega
theorem e_X_isPlainOrParted (d : Nat) {h : sn_H} {b : sn_Bk} {ad ru nl : Nat} {ex : List Value} (hb : WB nl b) (hB : h[ad]? = some (.inr (bk b + 3, bfs b ad ru ex))) : Sp d me_X_isPlainOrParted [.ref ad] h (some (.int (b2i (decide (bk b = 0 ∨ bk b = 2))))) h := by
  have hci : sn_bk (bk b + 3) := sn_bk_of hb.1
  have h5 := hb.1
  refine Sp.of ok_X_isPlainOrParted (b2i_rc _) rfl ?_
  refine Ev.go 1 rfl ?_
  refine Ev.gf rfl (lfb_0_110 (hci)) hB rfl ?_
  refine Ev.zeq rfl rfl (by omega) (fun c4 => ?_) (fun c4 => ?_)
  · refine Ev.go 2 rfl ?_
    exact Ev.reti rfl (by first | exact b2i_dt (by omega) | exact b2i_df (by omega))
  refine Ev.go 1 rfl ?_
  refine Ev.gf rfl (lfb_0_110 (hci)) hB rfl ?_
  refine Ev.go 1 rfl ?_
  refine Ev.ine rfl rfl rfl (by omega) (by omega) (fun c12 => ?_) (fun c12 => ?_)
  · refine Ev.go 1 rfl ?_
    exact Ev.reti rfl (by first | exact b2i_dt (by omega) | exact b2i_df (by omega))
  refine Ev.go 2 rfl ?_
  exact Ev.reti rfl (by first | exact b2i_dt (by omega) | exact b2i_df (by omega))
theorem p_X_join (d : Nat) {h : sn_H} {μ : sn_S} (q : XR h μ) (h27 : 27 ≤ h.length) (kv lv : Int32) (s : Bool) : SpP (d + 6) me_X_join [.ref 1, .int kv, .int lv, .int (b2i s)] h (PXi h (an_join μ kv lv s)) := by
  have q0 := q
  obtain ⟨ws, fl, fb, ad, ru, cw, o⟩ := q
  have hX := o.1
  have h8 := ws.2.1
  refine SpP.of ok_X_join (fun r h' z => z.rc) rfl ?_
  have J : ∀ k l : Nat, k < snb μ → l < snb μ → ∀ a b : sn_Bk, a = sbk μ k → b = sbk μ l → bk a = bk b → (bk a = 0 ∨ bk a = 2) → bm a = bm b → bl a = bl b → snb μ < 8 → EvP o0 (d + 6) me_X_join 89 [.ref 1, .int kv, .int lv, .int (b2i s), .ref (ad k), .ref (ad l), .retAddr 0, .retAddr 0] [] h (PXi h (nI (snb μ), addB μ (jnb s a b))) := by
    intro k l hk hl a b ea eb hbk h02 hbm hbl h8l
    have hwa : WB (sw μ).1 a := by rw [ea]; exact ws.2.2 k hk
    have hwb : WB (sw μ).1 b := by rw [eb]; exact ws.2.2 l hl
    have hRa : BR h (sw μ) a (ad k) (ru k) := by rw [ea]; exact (o.2.2.2.2.2.2.1 k hk).2.2
    have hRb : BR h (sw μ) b (ad l) (ru l) := by rw [eb]; exact (o.2.2.2.2.2.2.1 l hl).2.2
    have hcia : sn_bk (bk a + 3) := sn_bk_of hwa.1
    have hcib : sn_bk (bk b + 3) := sn_bk_of hwb.1
    obtain ⟨fNa, hN0a, hna⟩ := id hRa.2.1
    obtain ⟨fTa, hT0a, hta⟩ := id hRa.2.2.1
    obtain ⟨fNb, hN0b, hnb⟩ := id hRb.2.1
    obtain ⟨fTb, hT0b, htb⟩ := id hRb.2.2.1
    have hma := hwa.2.1
    have h5 := hwa.1
    have hBa := hRa.1.1
    have hR0 := BR.new (h := h) (k := bk a) (m := bm a) (l := bl a) (by omega) hRa.1.2
    generalize he0 : h ++ nbc (bk a) (bm a) (bl a) (ru k) h.length = h0 at hR0
    have L2 : ∀ (n : Nat) (h1 : sn_H) (g : Nat → Nat) (i : Nat) (iv : Int32), (i + n = 32) → (AG h0 h1 h.length (bln (nbk (bk a) (bm a) (bl a)))) → (BR h1 (sw μ) (btu (bnu (nbk (bk a) (bm a) (bl a)) (fun j => jn s (bn a j) (bn b j))) g) h.length (ru k)) → (∀ j, j < i → g j = jn s (bt a j) (bt b j)) → (iv = nI i) → EvP o0 (d + 6) me_X_join 164 [.ref 1, .int kv, .int lv, .int (b2i s), .ref (ad k), .ref (ad l), .ref h.length, .int iv] [] h1 (PXi h (nI (snb μ), addB μ (jnb s a b))) := by
      intro n
      induction n using Nat.strongRecOn with
      | _ n ih =>
        intro h1 g i iv k1 hA hR1 hg e3
        subst e3
        have hap : ∀ i, i < h.length → h1[i]? = h[i]? := fun i hi => (hA.2 i (Or.inl hi)).trans (by rw [← he0]; exact List.getElem?_append_left hi)
        have hBa := (hap _ (cell_lt hRa.1.1)).trans hRa.1.1
        have hNa : h1[ad k + 1]? = some (.inl (0, 32, .inl fNa)) := (hap _ (cell_lt hN0a)).trans hN0a
        have hTa : h1[ad k + 2]? = some (.inl (0, 32, .inl fTa)) := (hap _ (cell_lt hT0a)).trans hT0a
        have hBb := (hap _ (cell_lt hRb.1.1)).trans hRb.1.1
        have hNb : h1[ad l + 1]? = some (.inl (0, 32, .inl fNb)) := (hap _ (cell_lt hN0b)).trans hN0b
        have hTb : h1[ad l + 2]? = some (.inl (0, 32, .inl fTb)) := (hap _ (cell_lt hT0b)).trans hT0b
        have hX1 := (hap 1 (by omega)).trans o.1
        have hBn := hR1.1.1
        obtain ⟨fNn, hNn, hnn⟩ := hR1.2.1
        obtain ⟨fTn, hTn, htn⟩ := hR1.2.2.1
        have hl3 := bln_3 (nbk (bk a) (bm a) (bl a))
        refine EvP.s (fun _ _ K => Ev.go 2 rfl K) ?_
        refine EvP.ige rfl rfl rfl (by omega) (by omega) (fun c168 => ?_) (fun c168 => ?_)
        · refine EvP.s (fun _ _ K => Ev.go 2 rfl K) ?_
          refine EvP.s (fun _ _ K => Ev.cv (E' := me_X_keep) rfl mk_X_keep lv_0_98_0 rfl hX1 rfl (e_X_keep (d + 5) hX1 ((hap 3 (by omega)).trans o.2.2.1) hcia hBn h8l) K) ?_
          refine ⟨_, _, Ev.reti rfl rfl, ?_⟩
          have hwj : WB (sw μ).1 (jnb s a b) := hwa.jnb hwb h02 hbm
          have hR2 : BR h1 (sw μ) (jnb s a b) h.length (ru k) := hR1.tcong (g' := fun j => jn s (bt a j) (bt b j)) (fun j hj => hg j (by omega))
          have ok := o.kept ws h27 hap hwj hR2
          refine PXi.mk ⟨ws.addB h8l hwj, _, _, _, _, _, ok⟩ (kpt_lw hap _ _ _ _ _) ?_ rfl
          exact kpt_gb (k := bk a) (by have := hwa.1; omega) he0 hR0 hR2 rfl hA hX1 ((hap 3 (by omega)).trans o.2.2.1)
        refine EvP.s (fun _ _ K => Ev.go 1 rfl K) ?_
        refine EvP.s (fun _ _ K => Ev.gf rfl (lfb_0_153 (hcia)) hBn rfl K) ?_
        refine EvP.s (fun _ _ K => Ev.go 2 rfl K) ?_
        refine EvP.s (fun _ _ K => Ev.gf rfl (lfb_0_153 (hcia)) hBa rfl K) ?_
        refine EvP.s (fun _ _ K => Ev.go 1 rfl K) ?_
        refine EvP.s (fun _ _ K => Ev.iln rfl hTa rfl (by omega) (by omega) K) ?_
        rw [hta i (by omega)]
        refine EvP.s (fun _ _ K => Ev.go 1 rfl K) ?_
        refine EvP.s (fun _ _ K => Ev.gf rfl (lfb_0_153 (hcib)) hBb rfl K) ?_
        refine EvP.s (fun _ _ K => Ev.go 1 rfl K) ?_
        refine EvP.s (fun _ _ K => Ev.iln rfl hTb rfl (by omega) (by omega) K) ?_
        rw [htb i (by omega)]
        refine EvP.s (fun _ _ K => Ev.go 1 rfl K) ?_
        refine EvP.s (fun _ _ K => Ev.cs (E' := me_X_either) rfl mk_X_either ls_0_187 rfl rfl (e_X_either (d + 4) _ rfl rfl rfl (by have := hwa.2.2.2.2.2.2.2.2.2.1 i; omega) (by have := hwb.2.2.2.2.2.2.2.2.2.1 i; omega)) K) ?_
        refine EvP.s (fun _ _ K => Ev.isn rfl hTn rfl (by omega) (by omega) K) ?_
        refine EvP.s (fun _ _ K => Ev.go 2 rfl K) ?_
        have hs := hR1.tim hTn (i := i) (v := jn s (bt a i) (bt b i)) rfl
        exact ih (n - 1) (by omega) _ _ (i + 1) _ (by omega) (hA.trans (AG.set h1 _ (by omega) (by omega))) hs (fun j hj => by
          by_cases e : j = i
          · subst e; exact if_pos rfl
          · exact (if_neg e).trans (hg j (by omega))) (by rw [nI_add])
    have L1 : ∀ (n : Nat) (h1 : sn_H) (g : Nat → Nat) (i : Nat) (iv : Int32), (i + n = bm a) → (AG h0 h1 h.length (bln (nbk (bk a) (bm a) (bl a)))) → (BR h1 (sw μ) (bnu (nbk (bk a) (bm a) (bl a)) g) h.length (ru k)) → (∀ j, g j = if j < i then jn s (bn a j) (bn b j) else 0) → (iv = nI i) → EvP o0 (d + 6) me_X_join 117 [.ref 1, .int kv, .int lv, .int (b2i s), .ref (ad k), .ref (ad l), .ref h.length, .int iv] [] h1 (PXi h (nI (snb μ), addB μ (jnb s a b))) := by
      intro n
      induction n using Nat.strongRecOn with
      | _ n ih =>
        intro h1 g i iv k1 hA hR1 hg e3
        subst e3
        have hap : ∀ i, i < h.length → h1[i]? = h[i]? := fun i hi => (hA.2 i (Or.inl hi)).trans (by rw [← he0]; exact List.getElem?_append_left hi)
        have hBa := (hap _ (cell_lt hRa.1.1)).trans hRa.1.1
        have hNa : h1[ad k + 1]? = some (.inl (0, 32, .inl fNa)) := (hap _ (cell_lt hN0a)).trans hN0a
        have hTa : h1[ad k + 2]? = some (.inl (0, 32, .inl fTa)) := (hap _ (cell_lt hT0a)).trans hT0a
        have hBb := (hap _ (cell_lt hRb.1.1)).trans hRb.1.1
        have hNb : h1[ad l + 1]? = some (.inl (0, 32, .inl fNb)) := (hap _ (cell_lt hN0b)).trans hN0b
        have hTb : h1[ad l + 2]? = some (.inl (0, 32, .inl fTb)) := (hap _ (cell_lt hT0b)).trans hT0b
        have hX1 := (hap 1 (by omega)).trans o.1
        have hBn := hR1.1.1
        obtain ⟨fNn, hNn, hnn⟩ := hR1.2.1
        obtain ⟨fTn, hTn, htn⟩ := hR1.2.2.1
        have hl3 := bln_3 (nbk (bk a) (bm a) (bl a))
        refine EvP.s (fun _ _ K => Ev.go 2 rfl K) ?_
        refine EvP.s (fun _ _ K => Ev.gf rfl (lfb_0_113 (hcia)) hBn rfl K) ?_
        refine EvP.ige rfl rfl rfl (by omega) (by show bm a < _; omega) (fun c124 => ?_) (fun c124 => ?_)
        · refine EvP.s (fun _ _ K => Ev.go 2 rfl K) ?_
          have c124 : bm a ≤ i := c124
          refine L2 32 h1 (fun _ => 0) 0 _ (by omega) hA ?_ (fun j hj => absurd hj (Nat.not_lt_zero j)) rfl
          refine BR.ncong (b := (nbk (bk a) (bm a) (bl a))) hR1 (fun j _ => ?_)
          show g j = jn s (bn a j) (bn b j)
          rw [hg j]
          by_cases e : j < i
          · rw [if_pos e]
          · rw [if_neg e, hwa.2.2.2.2.2.2.2.2.1 j (by omega), hwb.2.2.2.2.2.2.2.2.1 j (by omega)]
            unfold jn; split <;> rfl
        have c124 : i < bm a := c124
        refine EvP.s (fun _ _ K => Ev.go 1 rfl K) ?_
        refine EvP.s (fun _ _ K => Ev.gf rfl (lfb_0_136 (hcia)) hBn rfl K) ?_
        refine EvP.s (fun _ _ K => Ev.go 2 rfl K) ?_
        refine EvP.s (fun _ _ K => Ev.gf rfl (lfb_0_136 (hcia)) hBa rfl K) ?_
        refine EvP.s (fun _ _ K => Ev.go 1 rfl K) ?_
        refine EvP.s (fun _ _ K => Ev.iln rfl hNa rfl (by omega) (by omega) K) ?_
        rw [hna i (by omega)]
        refine EvP.s (fun _ _ K => Ev.go 1 rfl K) ?_
        refine EvP.s (fun _ _ K => Ev.gf rfl (lfb_0_136 (hcib)) hBb rfl K) ?_
        refine EvP.s (fun _ _ K => Ev.go 1 rfl K) ?_
        refine EvP.s (fun _ _ K => Ev.iln rfl hNb rfl (by omega) (by omega) K) ?_
        rw [hnb i (by omega)]
        refine EvP.s (fun _ _ K => Ev.go 1 rfl K) ?_
        refine EvP.s (fun _ _ K => Ev.cs (E' := me_X_either) rfl mk_X_either ls_0_187 rfl rfl (e_X_either (d + 4) _ rfl rfl rfl (by have := hwa.2.2.2.2.2.2.2.1 i; omega) (by have := hwb.2.2.2.2.2.2.2.1 i; omega)) K) ?_
        refine EvP.s (fun _ _ K => Ev.isn rfl hNn rfl (by omega) (by omega) K) ?_
        refine EvP.s (fun _ _ K => Ev.go 2 rfl K) ?_
        have hs := hR1.num hNn (i := i) (v := jn s (bn a i) (bn b i)) rfl
        exact ih (n - 1) (by omega) _ _ (i + 1) _ (by omega) (hA.trans (AG.set h1 _ (by omega) (by omega))) hs (fun j => by
          by_cases e : j = i
          · subst e; rw [if_pos (by omega)]; exact if_pos rfl
          · rw [show uN (bn (bnu (nbk (bk a) (bm a) (bl a)) g)) i (jn s (bn a i) (bn b i)) j = g j from if_neg e, hg j]
            by_cases e2 : j < i
            · rw [if_pos e2, if_pos (by omega)]
            · rw [if_neg e2, if_neg (by omega)]) (by rw [nI_add])
    refine EvP.s (fun _ _ K => Ev.go 1 rfl K) ?_
    refine EvP.s (fun _ _ K => Ev.gf rfl (lfb_0_110 (hcia)) hBa rfl K) ?_
    refine EvP.s (fun _ _ K => Ev.go 1 rfl K) ?_
    refine EvP.s (fun _ _ K => Ev.gf rfl (lfb_0_113 (hcia)) hBa rfl K) ?_
    refine EvP.s (fun _ _ K => Ev.go 1 rfl K) ?_
    refine EvP.s (fun _ _ K => Ev.gf rfl (lfb_0_116 (hcia)) hBa rfl K) ?_
    refine EvP.s (fun _ _ K => Ev.go 1 rfl K) ?_
    refine EvP.s (fun _ _ K => Ev.gf rfl (lfb_0_184 (hcia)) hBa rfl K) ?_
    refine EvP.s (fun _ _ K => Ev.cs (E' := me_X_newBook) rfl mk_X_newBook ls_0_94 rfl rfl (e_X_newBook d rfl rfl rfl (by omega) (by omega)) K) ?_
    refine EvP.s (fun _ _ K => Ev.go 3 rfl K) ?_
    rw [he0]
    exact L1 (bm a) h0 (fun _ => 0) 0 _ (by omega) (AG.refl _ _ _) hR0 (fun j => by rw [if_neg (Nat.not_lt_zero j)]) rfl
  generalize hz : an_join μ kv lv s = z
  by_cases hk : rg kv (snb μ)
  · obtain ⟨k, hk1, hk2, rfl⟩ := rg_ex hk
    by_cases hl : rg lv (snb μ)
    · obtain ⟨l, hl1, hl2, rfl⟩ := rg_ex hl
      have hwa := ws.2.2 k hk1
      have hwb := ws.2.2 l hl1
      have hBa := (o.2.2.2.2.2.2.1 k hk1).2.2.1.1
      have hBb := (o.2.2.2.2.2.2.1 l hl1).2.2.1.1
      have hcia : sn_bk (bk (sbk μ k) + 3) := sn_bk_of hwa.1
      have hcib : sn_bk (bk (sbk μ l) + 3) := sn_bk_of hwb.1
      have m1 := hwa.2.1
      have m2 := hwb.2.1
      have k1 := hwa.1
      have k2 := hwb.1
      have l1 := hwa.bl256 ws.1.1
      have l2 := hwb.bl256 ws.1.1
      have hu : an_join μ (nI k) (nI l) s = if ¬ (bk (sbk μ k) = bk (sbk μ l) ∧ (bk (sbk μ k) = 0 ∨ bk (sbk μ k) = 2) ∧ bm (sbk μ k) = bm (sbk μ l) ∧ bl (sbk μ k) = bl (sbk μ l)) then (- nI 103, μ) else if snb μ = 8 then (- nI 104, μ) else (nI (snb μ), addB μ (jnb s (sbk μ k) (sbk μ l))) := by
        unfold an_join
        rw [if_neg (fun z => z ⟨hk, hl⟩), tn_nI hk2, tn_nI hl2]
      rw [hu] at hz
      refine EvP.s (fun _ _ K => Ev.go 2 rfl K) ?_
      refine EvP.s (fun _ _ K => Ev.cv (E' := me_X_find) rfl mk_X_find lv_0_102_0 rfl hX rfl (e_X_find_y (d + 5) ws o rfl hk1) K) ?_
      refine EvP.s (fun _ _ K => Ev.go 3 rfl K) ?_
      refine EvP.s (fun _ _ K => Ev.cv (E' := me_X_find) rfl mk_X_find lv_0_102_0 rfl hX rfl (e_X_find_y (d + 5) ws o rfl hl1) K) ?_
      refine EvP.s (fun _ _ K => Ev.go 2 rfl K) ?_
      refine EvP.s (fun _ _ K => Ev.p rfl rfl trivial K) ?_
      refine EvP.s (fun _ _ K => Ev.go 1 rfl K) ?_
      refine EvP.s (fun _ _ K => Ev.p rfl rfl trivial K) ?_
      refine EvP.s (fun _ _ K => Ev.go 1 rfl K) ?_
      refine EvP.s (fun _ _ K => Ev.cs (E' := me_X_isPlainOrParted) rfl mk_X_isPlainOrParted ls_0_180 rfl rfl (e_X_isPlainOrParted (d + 5) hwa hBa) K) ?_
      refine EvP.zb rfl rfl (fun c32 => ?_) (fun c32 => ?_)
      · refine EvP.s (fun _ _ K => Ev.go 1 rfl K) ?_
        refine ⟨_, _, Ev.reti rfl rfl, ?_⟩
        refine PXi.mk q0 (LW.refl _) (GB.refl _) ?_
        rw [← hz, if_pos (fun z => ofn c32 z.2.1)]
      refine EvP.s (fun _ _ K => Ev.go 1 rfl K) ?_
      refine EvP.s (fun _ _ K => Ev.gf rfl (lfb_0_110 (hcia)) hBa rfl K) ?_
      refine EvP.s (fun _ _ K => Ev.go 1 rfl K) ?_
      refine EvP.s (fun _ _ K => Ev.gf rfl (lfb_0_110 (hcib)) hBb rfl K) ?_
      refine EvP.ine rfl rfl rfl (by omega) (by omega) (fun c45 => ?_) (fun c45 => ?_)
      · refine EvP.s (fun _ _ K => Ev.go 1 rfl K) ?_
        refine ⟨_, _, Ev.reti rfl rfl, ?_⟩
        refine PXi.mk q0 (LW.refl _) (GB.refl _) ?_
        rw [← hz, if_pos (fun z => c45 z.1)]
      refine EvP.s (fun _ _ K => Ev.go 1 rfl K) ?_
      refine EvP.s (fun _ _ K => Ev.gf rfl (lfb_0_113 (hcia)) hBa rfl K) ?_
      refine EvP.s (fun _ _ K => Ev.go 1 rfl K) ?_
      refine EvP.s (fun _ _ K => Ev.gf rfl (lfb_0_113 (hcib)) hBb rfl K) ?_
      refine EvP.ine rfl rfl rfl (by omega) (by omega) (fun c58 => ?_) (fun c58 => ?_)
      · refine EvP.s (fun _ _ K => Ev.go 1 rfl K) ?_
        refine ⟨_, _, Ev.reti rfl rfl, ?_⟩
        refine PXi.mk q0 (LW.refl _) (GB.refl _) ?_
        rw [← hz, if_pos (fun z => c58 z.2.2.1)]
      refine EvP.s (fun _ _ K => Ev.go 1 rfl K) ?_
      refine EvP.s (fun _ _ K => Ev.gf rfl (lfb_0_116 (hcia)) hBa rfl K) ?_
      refine EvP.s (fun _ _ K => Ev.go 1 rfl K) ?_
      refine EvP.s (fun _ _ K => Ev.gf rfl (lfb_0_116 (hcib)) hBb rfl K) ?_
      refine EvP.ieq rfl rfl rfl (by omega) (by omega) (fun c71 => ?_) (fun c71 => ?_)
      · refine EvP.s (fun _ _ K => Ev.go 1 rfl K) ?_
        refine EvP.s (fun _ _ K => Ev.gf rfl lf_0_25_0 hX rfl K) ?_
        refine EvP.s (fun _ _ K => Ev.go 1 rfl K) ?_
        refine EvP.ilt rfl rfl rfl (by omega) (by omega) (fun c83 => ?_) (fun c83 => ?_)
        · rw [← hz, if_neg (fun z => z ⟨c45, ofd c32, c58, c71⟩), if_neg (by omega)]
          exact J k l hk1 hl1 _ _ rfl rfl c45 (ofd c32) c58 c71 c83
        refine EvP.s (fun _ _ K => Ev.go 1 rfl K) ?_
        refine ⟨_, _, Ev.reti rfl rfl, ?_⟩
        refine PXi.mk q0 (LW.refl _) (GB.refl _) ?_
        rw [← hz, if_neg (fun z => z ⟨c45, ofd c32, c58, c71⟩), if_pos (by omega)]
      refine EvP.s (fun _ _ K => Ev.go 1 rfl K) ?_
      refine ⟨_, _, Ev.reti rfl rfl, ?_⟩
      refine PXi.mk q0 (LW.refl _) (GB.refl _) ?_
      rw [← hz, if_pos (fun z => c71 z.2.2.2)]
    · refine EvP.s (fun _ _ K => Ev.go 2 rfl K) ?_
      refine EvP.s (fun _ _ K => Ev.cv (E' := me_X_find) rfl mk_X_find lv_0_102_0 rfl hX rfl (e_X_find_y (d + 5) ws o rfl hk1) K) ?_
      refine EvP.s (fun _ _ K => Ev.go 3 rfl K) ?_
      refine EvP.s (fun _ _ K => Ev.cv (E' := me_X_find) rfl mk_X_find lv_0_102_0 rfl hX rfl (e_X_find_n (d + 5) q0 hl) K) ?_
      refine EvP.s (fun _ _ K => Ev.go 2 rfl K) ?_
      refine EvP.s (fun _ _ K => Ev.p rfl rfl trivial K) ?_
      refine EvP.s (fun _ _ K => Ev.go 1 rfl K) ?_
      refine EvP.s (fun _ _ K => Ev.p rfl rfl trivial K) ?_
      refine EvP.s (fun _ _ K => Ev.go 1 rfl K) ?_
      refine ⟨_, _, Ev.reti rfl rfl, ?_⟩
      refine PXi.mk q0 (LW.refl _) (GB.refl _) ?_
      rw [← hz]; unfold an_join; rw [if_pos (fun z => hl z.2)]
  · by_cases hl : rg lv (snb μ)
    · obtain ⟨l, hl1, hl2, rfl⟩ := rg_ex hl
      refine EvP.s (fun _ _ K => Ev.go 2 rfl K) ?_
      refine EvP.s (fun _ _ K => Ev.cv (E' := me_X_find) rfl mk_X_find lv_0_102_0 rfl hX rfl (e_X_find_n (d + 5) q0 hk) K) ?_
      refine EvP.s (fun _ _ K => Ev.go 3 rfl K) ?_
      refine EvP.s (fun _ _ K => Ev.cv (E' := me_X_find) rfl mk_X_find lv_0_102_0 rfl hX rfl (e_X_find_y (d + 5) ws o rfl hl1) K) ?_
      refine EvP.s (fun _ _ K => Ev.go 2 rfl K) ?_
      refine EvP.s (fun _ _ K => Ev.p rfl rfl trivial K) ?_
      refine EvP.s (fun _ _ K => Ev.go 1 rfl K) ?_
      refine ⟨_, _, Ev.reti rfl rfl, ?_⟩
      refine PXi.mk q0 (LW.refl _) (GB.refl _) ?_
      rw [← hz]; unfold an_join; rw [if_pos (fun z => hk z.1)]
    · refine EvP.s (fun _ _ K => Ev.go 2 rfl K) ?_
      refine EvP.s (fun _ _ K => Ev.cv (E' := me_X_find) rfl mk_X_find lv_0_102_0 rfl hX rfl (e_X_find_n (d + 5) q0 hk) K) ?_
      refine EvP.s (fun _ _ K => Ev.go 3 rfl K) ?_
      refine EvP.s (fun _ _ K => Ev.cv (E' := me_X_find) rfl mk_X_find lv_0_102_0 rfl hX rfl (e_X_find_n (d + 5) q0 hl) K) ?_
      refine EvP.s (fun _ _ K => Ev.go 2 rfl K) ?_
      refine EvP.s (fun _ _ K => Ev.p rfl rfl trivial K) ?_
      refine EvP.s (fun _ _ K => Ev.go 1 rfl K) ?_
      refine ⟨_, _, Ev.reti rfl rfl, ?_⟩
      refine PXi.mk q0 (LW.refl _) (GB.refl _) ?_
      rw [← hz]; unfold an_join; rw [if_pos (fun z => hk z.1)]
theorem BR.row2 {h h' : sn_H} {w : sn_Lw} {b : sn_Bk} {ad ru : Nat} (q : BR h w b ad ru) (g : AG h h' (ad + 2) 1) {f' : Nat → Int32} {g' : Nat → Nat} (hf : h'[ad + 2]? = some (.inl (0, 32, .inl f'))) (hg : ∀ i, i < 32 → f' i = nI (g' i)) : BR h' w (btu b g') ad ru := by
  have h3 := bln_3 b
  have ne : ∀ c, c ≠ ad + 2 → h'[c]? = h[c]? := fun c hc => g.2 c (by omega)
  have q0 := q
  obtain ⟨_, _, hr⟩ := q.1.2.cell
  obtain ⟨⟨hB, hRU⟩, ⟨f1, hN, hn⟩, _, hE⟩ := q
  exact ⟨⟨by rw [ne ad (by omega)]; exact hB, hRU.ag (g.mono (a' := ad) (n' := bln b) (by omega) (by omega)) (q0.out3 hr) (fun c f hc => q0.out2 hc)⟩, ⟨f1, by rw [ne _ (by omega)]; exact hN, hn⟩, ⟨f', hf, hg⟩, EX.ne (b := btu b g') hE (fun c hc => ne c (by omega))⟩
theorem p_X_halve (d : Nat) {h : sn_H} {μ : sn_S} (q : XR h μ) (h27 : 27 ≤ h.length) (kv : Int32) : SpP (d + 6) me_X_halve [.ref 1, .int kv] h (PXi h (an_halve μ kv)) := by
  have q0 := q
  obtain ⟨ws, fl, fb, ad, ru, cw, o⟩ := q
  have hX := o.1
  have h8 := ws.2.1
  refine SpP.of ok_X_halve (fun r h' z => z.rc) rfl ?_
  have J : ∀ k : Nat, k < snb μ → ∀ b : sn_Bk, b = sbk μ k → bk b = 0 → bm b % 2 = 0 → 2 ≤ bm b / 2 → snb μ < 8 → EvP o0 (d + 6) me_X_halve 57 [.ref 1, .int kv, .ref (ad k), .int (nI (bm b / 2)), .retAddr 0, .retAddr 0] [] h (PXi h (nI (snb μ), addB μ (hlv b))) := by
    intro k hk b eb hb0 hb2 h22 h8l
    have hwb : WB (sw μ).1 b := by rw [eb]; exact ws.2.2 k hk
    have hRb : BR h (sw μ) b (ad k) (ru k) := by rw [eb]; exact (o.2.2.2.2.2.2.1 k hk).2.2
    have hcib : sn_bk (bk b + 3) := sn_bk_of hwb.1
    have hci0 : sn_bk (0 + 3) := sn_bk_of (by omega)
    obtain ⟨fNb, hN0b, hnb⟩ := id hRb.2.1
    obtain ⟨fTb, hT0b, htb⟩ := id hRb.2.2.1
    have hma := hwb.2.1
    have hBb := hRb.1.1
    have hR0 := BR.new (h := h) (k := 0) (m := bm b / 2) (l := bl b) (by omega) hRb.1.2
    generalize he0 : h ++ nbc 0 (bm b / 2) (bl b) (ru k) h.length = h0 at hR0
    have L1 : ∀ (n : Nat) (h1 : sn_H) (g : Nat → Nat) (i : Nat) (iv : Int32), (i + n = bm b / 2) → (AG h0 h1 h.length (bln (nbk 0 (bm b / 2) (bl b)))) → (BR h1 (sw μ) (bnu (nbk 0 (bm b / 2) (bl b)) g) h.length (ru k)) → (∀ j, g j = if j < i then max (bn b j) (bn b (bm b / 2 + j)) else 0) → (iv = nI i) → EvP o0 (d + 6) me_X_halve 75 [.ref 1, .int kv, .ref (ad k), .int (nI (bm b / 2)), .ref h.length, .int iv] [] h1 (PXi h (nI (snb μ), addB μ (hlv b))) := by
      intro n
      induction n using Nat.strongRecOn with
      | _ n ih =>
        intro h1 g i iv k1 hA hR1 hg e3
        subst e3
        have hap : ∀ i, i < h.length → h1[i]? = h[i]? := fun i hi => (hA.2 i (Or.inl hi)).trans (by rw [← he0]; exact List.getElem?_append_left hi)
        have hBb := (hap _ (cell_lt hRb.1.1)).trans hRb.1.1
        have hNb : h1[ad k + 1]? = some (.inl (0, 32, .inl fNb)) := (hap _ (cell_lt hN0b)).trans hN0b
        have hTb : h1[ad k + 2]? = some (.inl (0, 32, .inl fTb)) := (hap _ (cell_lt hT0b)).trans hT0b
        have hX1 := (hap 1 (by omega)).trans o.1
        have hBn := hR1.1.1
        obtain ⟨fNn, hNn, hnn⟩ := hR1.2.1
        obtain ⟨fTn, hTn, htn⟩ := hR1.2.2.1
        have hl3 := bln_3 (nbk 0 (bm b / 2) (bl b))
        refine EvP.s (fun _ _ K => Ev.go 2 rfl K) ?_
        refine EvP.ige rfl rfl rfl (by omega) (by omega) (fun c78 => ?_) (fun c78 => ?_)
        · refine EvP.s (fun _ _ K => Ev.go 1 rfl K) ?_
          refine EvP.s (fun _ _ K => Ev.gf rfl (lfb_0_153 (hcib)) hBb rfl K) ?_
          refine EvP.s (fun _ _ K => Ev.go 2 rfl K) ?_
          refine EvP.s (fun _ _ K => Ev.gf rfl (lfb_0_153 (hci0)) hBn rfl K) ?_
          refine EvP.s (fun _ _ K => Ev.go 2 rfl K) ?_
          refine EvP.s (fun _ _ K => Ev.ki rfl la_0_196 hTb hTn rfl (by omega) (by omega) (by omega) rfl K) ?_
          have hA2 : AG h1 (h1.set (h.length + 2) (.inl (0, 32, .inl (va_cpy fTb fTn 0 0 32)))) (h.length + 2) 1 := AG.set h1 _ (by omega) (by omega)
          have hc2 : (h1.set (h.length + 2) (.inl (0, 32, .inl (va_cpy fTb fTn 0 0 32))))[h.length + 2]? = some (.inl (0, 32, .inl (va_cpy fTb fTn 0 0 32))) := List.getElem?_set_self (cell_lt hTn)
          generalize h1.set (h.length + 2) (.inl (0, 32, .inl (va_cpy fTb fTn 0 0 32))) = h2 at hA2 hc2 ⊢
          have hR2 := hR1.row2 hA2 (g' := bt b) hc2 (fun j hj => by rw [sb_cpy0 hj]; exact htb j hj)
          have hR2 : BR h2 (sw μ) (hlv b) h.length (ru k) := BR.ncong (b := btu (nbk 0 (bm b / 2) (bl b)) (bt b)) (g := g) (g' := fun i => if i < bm b / 2 then max (bn b i) (bn b (bm b / 2 + i)) else 0) hR2 (fun j _ => by rw [hg j, show i = bm b / 2 by omega])
          have hA := hA.trans (hA2.mono (a' := h.length) (n' := bln (nbk 0 (bm b / 2) (bl b))) (by omega) (by omega))
          have hap : ∀ i, i < h.length → h2[i]? = h[i]? := fun i hi => (hA.2 i (Or.inl hi)).trans (by rw [← he0]; exact List.getElem?_append_left hi)
          have hX1 := (hap 1 (by omega)).trans o.1
          have hBn := hR2.1.1
          refine EvP.s (fun _ _ K => Ev.go 2 rfl K) ?_
          refine EvP.s (fun _ _ K => Ev.cv (E' := me_X_keep) rfl mk_X_keep lv_0_98_0 rfl hX1 rfl (e_X_keep (d + 5) hX1 ((hap 3 (by omega)).trans o.2.2.1) hci0 hBn h8l) K) ?_
          refine ⟨_, _, Ev.reti rfl rfl, ?_⟩
          have hwj : WB (sw μ).1 (hlv b) := hwb.hlv h22
          have ok := o.kept ws h27 hap hwj hR2
          refine PXi.mk ⟨ws.addB h8l hwj, _, _, _, _, _, ok⟩ (kpt_lw hap _ _ _ _ _) ?_ rfl
          exact kpt_gb (k := 0) (by omega) he0 hR0 hR2 rfl hA hX1 ((hap 3 (by omega)).trans o.2.2.1)
        refine EvP.s (fun _ _ K => Ev.go 1 rfl K) ?_
        refine EvP.s (fun _ _ K => Ev.gf rfl (lfb_0_136 (hci0)) hBn rfl K) ?_
        refine EvP.s (fun _ _ K => Ev.go 2 rfl K) ?_
        refine EvP.s (fun _ _ K => Ev.gf rfl (lfb_0_136 (hcib)) hBb rfl K) ?_
        refine EvP.s (fun _ _ K => Ev.go 1 rfl K) ?_
        refine EvP.s (fun _ _ K => Ev.iln rfl hNb rfl (by omega) (by omega) K) ?_
        rw [hnb i (by omega)]
        refine EvP.s (fun _ _ K => Ev.go 1 rfl K) ?_
        refine EvP.s (fun _ _ K => Ev.gf rfl (lfb_0_136 (hcib)) hBb rfl K) ?_
        refine EvP.s (fun _ _ K => Ev.go 3 rfl K) ?_
        refine EvP.s (fun _ _ K => Ev.iln rfl hNb (by rw [nI_add]) (by omega) (by omega) K) ?_
        rw [hnb (i + bm b / 2) (by omega)]
        refine EvP.s (fun _ _ K => Ev.mx rfl lm_0_191 rfl K) ?_
        rw [mx_N (by have := hwb.2.2.2.2.2.2.2.1 i; omega) (by have := hwb.2.2.2.2.2.2.2.1 (i + bm b / 2); omega), Nat.add_comm i (bm b / 2)]
        refine EvP.s (fun _ _ K => Ev.isn rfl hNn rfl (by omega) (by omega) K) ?_
        refine EvP.s (fun _ _ K => Ev.go 2 rfl K) ?_
        have hs := hR1.num hNn (i := i) (v := max (bn b i) (bn b (bm b / 2 + i))) rfl
        exact ih (n - 1) (by omega) _ _ (i + 1) _ (by omega) (hA.trans (AG.set h1 _ (by omega) (by omega))) hs (fun j => by
          by_cases e : j = i
          · subst e; rw [if_pos (by omega)]; exact if_pos rfl
          · rw [show uN (bn (bnu (nbk 0 (bm b / 2) (bl b)) g)) i (max (bn b i) (bn b (bm b / 2 + i))) j = g j from if_neg e, hg j]
            by_cases e2 : j < i
            · rw [if_pos e2, if_pos (by omega)]
            · rw [if_neg e2, if_neg (by omega)]) (by rw [nI_add])
    refine EvP.s (fun _ _ K => Ev.go 3 rfl K) ?_
    refine EvP.s (fun _ _ K => Ev.gf rfl (lfb_0_116 (hcib)) hBb rfl K) ?_
    refine EvP.s (fun _ _ K => Ev.go 1 rfl K) ?_
    refine EvP.s (fun _ _ K => Ev.gf rfl (lfb_0_184 (hcib)) hBb rfl K) ?_
    refine EvP.s (fun _ _ K => Ev.cs (E' := me_X_newBook) rfl mk_X_newBook ls_0_94 rfl rfl (e_X_newBook d rfl rfl rfl (by omega) (by omega)) K) ?_
    refine EvP.s (fun _ _ K => Ev.go 3 rfl K) ?_
    rw [he0]
    exact L1 (bm b / 2) h0 (fun _ => 0) 0 _ (by omega) (AG.refl _ _ _) hR0 (fun j => by rw [if_neg (Nat.not_lt_zero j)]) rfl
  generalize hz : an_halve μ kv = z
  by_cases hk : rg kv (snb μ)
  · obtain ⟨k, hk1, hk2, rfl⟩ := rg_ex hk
    have hwb := ws.2.2 k hk1
    have hBb := (o.2.2.2.2.2.2.1 k hk1).2.2.1.1
    have hcib : sn_bk (bk (sbk μ k) + 3) := sn_bk_of hwb.1
    have m1 := hwb.2.1
    have k1 := hwb.1
    have hu : an_halve μ (nI k) = if ¬ (bk (sbk μ k) = 0 ∧ bm (sbk μ k) % 2 = 0 ∧ 2 ≤ bm (sbk μ k) / 2) then (- nI 103, μ) else if snb μ = 8 then (- nI 104, μ) else (nI (snb μ), addB μ (hlv (sbk μ k))) := by
      unfold an_halve
      rw [if_neg (fun z => z hk), tn_nI hk2]
    rw [hu] at hz
    refine EvP.s (fun _ _ K => Ev.go 2 rfl K) ?_
    refine EvP.s (fun _ _ K => Ev.cv (E' := me_X_find) rfl mk_X_find lv_0_102_0 rfl hX rfl (e_X_find_y (d + 5) ws o rfl hk1) K) ?_
    refine EvP.s (fun _ _ K => Ev.go 2 rfl K) ?_
    refine EvP.s (fun _ _ K => Ev.p rfl rfl trivial K) ?_
    refine EvP.s (fun _ _ K => Ev.go 1 rfl K) ?_
    refine EvP.s (fun _ _ K => Ev.gf rfl (lfb_0_113 (hcib)) hBb rfl K) ?_
    refine EvP.s (fun _ _ K => Ev.go 1 rfl K) ?_
    refine EvP.s (fun _ _ K => Ev.dv rfl rfl rfl (by omega) (by omega) (by omega) K) ?_
    refine EvP.s (fun _ _ K => Ev.go 2 rfl K) ?_
    refine EvP.s (fun _ _ K => Ev.gf rfl (lfb_0_110 (hcib)) hBb rfl K) ?_
    refine EvP.zne rfl rfl (by omega) (fun c24 => ?_) (fun c24 => ?_)
    · refine EvP.s (fun _ _ K => Ev.go 1 rfl K) ?_
      refine ⟨_, _, Ev.reti rfl rfl, ?_⟩
      refine PXi.mk q0 (LW.refl _) (GB.refl _) ?_
      rw [← hz, if_pos (fun z => by omega)]
    refine EvP.s (fun _ _ K => Ev.go 2 rfl K) ?_
    refine EvP.ilt rfl rfl rfl (by omega) (by omega) (fun c29 => ?_) (fun c29 => ?_)
    · refine EvP.s (fun _ _ K => Ev.go 1 rfl K) ?_
      refine ⟨_, _, Ev.reti rfl rfl, ?_⟩
      refine PXi.mk q0 (LW.refl _) (GB.refl _) ?_
      rw [← hz, if_pos (fun z => by omega)]
    refine EvP.s (fun _ _ K => Ev.go 4 rfl K) ?_
    refine EvP.s (fun _ _ K => Ev.gf rfl (lfb_0_113 (hcib)) hBb rfl K) ?_
    refine EvP.ieq rfl (by rw [pk_mul]) rfl (by omega) (by omega) (fun c39 => ?_) (fun c39 => ?_)
    · refine EvP.s (fun _ _ K => Ev.go 1 rfl K) ?_
      refine EvP.s (fun _ _ K => Ev.gf rfl lf_0_25_0 hX rfl K) ?_
      refine EvP.s (fun _ _ K => Ev.go 1 rfl K) ?_
      refine EvP.ilt rfl rfl rfl (by omega) (by omega) (fun c51 => ?_) (fun c51 => ?_)
      · rw [← hz, if_neg (fun z => z ⟨by omega, by omega, by omega⟩), if_neg (by omega)]
        exact J k hk1 _ rfl (by omega) (by omega) (by omega) c51
      refine EvP.s (fun _ _ K => Ev.go 1 rfl K) ?_
      refine ⟨_, _, Ev.reti rfl rfl, ?_⟩
      refine PXi.mk q0 (LW.refl _) (GB.refl _) ?_
      rw [← hz, if_neg (fun z => z ⟨by omega, by omega, by omega⟩), if_pos (by omega)]
    refine EvP.s (fun _ _ K => Ev.go 1 rfl K) ?_
    refine ⟨_, _, Ev.reti rfl rfl, ?_⟩
    refine PXi.mk q0 (LW.refl _) (GB.refl _) ?_
    rw [← hz, if_pos (fun z => by omega)]
  · refine EvP.s (fun _ _ K => Ev.go 2 rfl K) ?_
    refine EvP.s (fun _ _ K => Ev.cv (E' := me_X_find) rfl mk_X_find lv_0_102_0 rfl hX rfl (e_X_find_n (d + 5) q0 hk) K) ?_
    refine EvP.s (fun _ _ K => Ev.go 2 rfl K) ?_
    refine EvP.s (fun _ _ K => Ev.p rfl rfl trivial K) ?_
    refine EvP.s (fun _ _ K => Ev.go 1 rfl K) ?_
    refine ⟨_, _, Ev.reti rfl rfl, ?_⟩
    refine PXi.mk q0 (LW.refl _) (GB.refl _) ?_
    rw [← hz]; unfold an_halve; rw [if_pos hk]
