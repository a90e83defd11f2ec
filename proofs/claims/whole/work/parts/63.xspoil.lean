/-! THE CLASS: spoil -/
theorem BR.sp {h h' : sn_H} {w : sn_Lw} {b : sn_Bk} {ad ru : Nat} (q : BR h w b ad ru) (h27 : 27 ≤ ad) (g : AG h h' 4 1) (j : JR h 4 32) : BR h' w b ad ru := by
  obtain ⟨fj, hj⟩ := j
  have ne : ∀ c, 5 ≤ c → h'[c]? = h[c]? := fun c hc => g.2 c (by omega)
  obtain ⟨⟨hB, fr, hF, hfr⟩, ⟨f1, hN, hn⟩, ⟨f2, hT, ht⟩, hU, hFo, hL, h0⟩ := q
  have hru : ru ≠ 4 := fun e => by rw [e, hj] at hF; cases hF
  refine ⟨⟨by rw [ne _ (by omega)]; exact hB, fr, by rw [g.2 _ (by omega)]; exact hF, fun i hi => ?_⟩, ⟨f1, by rw [ne _ (by omega)]; exact hN, hn⟩, ⟨f2, by rw [ne _ (by omega)]; exact hT, ht⟩, fun e => ?_, fun e => ?_, fun e => ?_, h0⟩
  · obtain ⟨a, e1, e2⟩ := hfr i hi
    have ha : a ≠ 4 := fun e => by rw [e, hj] at e2; cases e2
    exact ⟨a, e1, by rw [g.2 _ (by omega)]; exact e2⟩
  · obtain ⟨⟨g3, k3⟩, ⟨g4, k4⟩, ⟨g5, k5⟩, ⟨g6, k6⟩⟩ := hU e
    exact ⟨⟨g3, by rw [ne _ (by omega)]; exact k3⟩, ⟨g4, by rw [ne _ (by omega)]; exact k4⟩, ⟨g5, by rw [ne _ (by omega)]; exact k5⟩, ⟨g6, by rw [ne _ (by omega)]; exact k6⟩⟩
  · obtain ⟨⟨g3, k3⟩, ⟨g4, k4⟩, ⟨g5, k5⟩⟩ := hFo e
    exact ⟨⟨g3, by rw [ne _ (by omega)]; exact k3⟩, ⟨g4, by rw [ne _ (by omega)]; exact k4⟩, ⟨g5, by rw [ne _ (by omega)]; exact k5⟩⟩
  · obtain ⟨⟨g3, k3, k⟩, ⟨g4, k4⟩⟩ := hL e
    exact ⟨⟨g3, by rw [ne _ (by omega)]; exact k3, k⟩, ⟨g4, by rw [ne _ (by omega)]; exact k4⟩⟩
theorem XO.sp {h h' : sn_H} {μ : sn_S} {fl fb : Nat → Option Nat} {ad ru : Nat → Nat} {cv : Value} (o : XO h μ fl fb ad ru cv) (g : AG h h' 4 1) (j' : JR h' 4 32) : XO h' μ fl fb ad ru cv := by
  obtain ⟨o1, o2, o3, o4, o5, o6, o7, o8⟩ := o
  refine ⟨by rw [g.2 _ (by omega)]; exact o1, by rw [g.2 _ (by omega)]; exact o2, by rw [g.2 _ (by omega)]; exact o3, j', ?_, fun l hl => ?_, fun k hk => ?_, o8⟩
  · rcases o5 with e | ⟨c, e1, e2, e3, fj, e4⟩
    · exact Or.inl e
    · exact Or.inr ⟨c, e1, e2, by rw [g.2 _ (Or.inr (Nat.le_trans (by decide) e2))]; exact e3, fj, by rw [g.2 _ (Or.inr (Nat.le_trans (by decide) (Nat.le_succ_of_le e2)))]; exact e4⟩
  · obtain ⟨a, e1, e2⟩ := o6 l hl
    obtain ⟨fj, hj⟩ := o4
    have ha : a ≠ 4 := fun e => by rw [e, hj] at e2; cases e2
    exact ⟨a, e1, by rw [g.2 _ (by omega)]; exact e2⟩
  · obtain ⟨e1, e2, e3⟩ := o7 k hk
    exact ⟨e1, e2, e3.sp e2 g o4⟩
def PXl (h : sn_H) (z : Int64 × sn_S) (r : Option Value) (h' : sn_H) : Prop := r = some (.long z.1) ∧ XR h' z.2 ∧ LW h h' ∧ GB h h'
theorem PXl.rc {h : sn_H} {z : Int64 × sn_S} {r : Option Value} {h' : sn_H} (q : PXl h z r h') : sn_rc (some .long) r := by
  obtain ⟨rfl, _⟩ := q; trivial
theorem PXl.mk {h h' : sn_H} {z : Int64 × sn_S} {v : Int64} {μ : sn_S} (q : XR h' μ) (g : LW h h') (gb : GB h h') (e : (v, μ) = z) : PXl h z (some (.long v)) h' := by
  subst e; exact ⟨rfl, q, g, gb⟩
theorem AG.lw4 {h h' : sn_H} (g : AG h h' 4 1) : LW h h' := fun i hi _ => g.2 i (by omega)
theorem AG.gb4 {h h' : sn_H} (g : AG h h' 4 1) (j : JR h 4 32) (j' : JR h' 4 32) : GB h h' := by
  refine ⟨by rw [g.1]; omega, ?_⟩
  rw [sn_hs_eq (h := h) (h' := h') (fun i => ?_)]
  · omega
  · by_cases e : i = 4
    · subst e
      obtain ⟨f, k⟩ := j
      obtain ⟨f', k'⟩ := j'
      rw [k, k']; rfl
    · rw [g.2 i (by omega)]
def PNo (h : sn_H) (w : sn_Lw) (b : sn_Bk) (r : Option Value) (h' : sn_H) : Prop := r = none ∧ AG h h' 4 1 ∧ ∃ f : Nat → Int64, h'[4]? = some (.inl (1, 32, .inr (.inl f))) ∧ ∀ y, y < 32 → f y = lN (pls w b y)
theorem PNo.rc {h : sn_H} {w : sn_Lw} {b : sn_Bk} {r : Option Value} {h' : sn_H} (q : PNo h w b r h') : sn_rc none r := by
  obtain ⟨rfl, _⟩ := q; trivial
theorem e_X_noteSpots (d : Nat) {h : sn_H} {w : sn_Lw} {b : sn_Bk} {ad ru : Nat} (hw : WL w) (hb : WB w.1 b) (hR : BR h w b ad ru) (h27 : 27 ≤ ad) {v1 v2 v3 : Value} (hX0 : h[1]? = some (.inr (0, [.ref 2, v1, .ref 3, v2, .ref 4, v3]))) (hJ : JR h 4 32) : SpP (d + 3) me_X_noteSpots [.ref 1, .ref ad] h (PNo h w b) := by
  obtain ⟨f0, hF0⟩ := id hJ
  have hci : sn_bk (bk b + 3) := sn_bk_of hb.1
  refine SpP.of ok_X_noteSpots (fun r h' z => z.rc) rfl ?_
  have L : ∀ (n : Nat) (h1 : sn_H) (f : Nat → Int64) (i : Nat) (iv : Int32), (i + n = 32) → (AG h h1 4 1) → (h1[4]? = some (.inl (1, 32, .inr (.inl f)))) → (∀ y, y < i → f y = lN (pls w b y)) → (iv = nI i) → EvP o0 (d + 3) me_X_noteSpots 2 [.ref 1, .ref ad, .int iv] [] h1 (PNo h w b) := by
    intro n
    induction n using Nat.strongRecOn with
    | _ n ih =>
      intro h1 f i iv k1 hA hF hf e3
      subst e3
      have hR1 := hR.sp h27 hA hJ
      have hB := hR1.1.1
      have hX : h1[1]? = _ := (hA.2 1 (by omega)).trans hX0
      refine EvP.s (fun _ _ K => Ev.go 2 rfl K) ?_
      refine EvP.ige rfl rfl rfl (by omega) (by omega) (fun c5 => ?_) (fun c5 => ?_)
      · refine ⟨_, _, Ev.retv rfl, ?_⟩
        exact ⟨rfl, hA, f, hF, fun y hy => hf y (by omega)⟩
      refine EvP.s (fun _ _ K => Ev.go 1 rfl K) ?_
      refine EvP.s (fun _ _ K => Ev.gf rfl lf_0_28_0 hX rfl K) ?_
      refine EvP.s (fun _ _ K => Ev.go 3 rfl K) ?_
      refine EvP.s (fun _ _ K => Ev.cv (E' := vt_placeBits (bk b + 3)) rfl (mkb_placeBits hci) (lvb_0_146 hci) rfl hB rfl (v_placeBits d hw hb hR1.1 rfl (by omega)) K) ?_
      refine EvP.s (fun _ _ K => Ev.lsn rfl hF rfl (by omega) (by omega) K) ?_
      refine EvP.s (fun _ _ K => Ev.go 2 rfl K) ?_
      refine ih (n - 1) (by omega) _ _ (i + 1) _ (by omega) (hA.trans (AG.set h1 _ (by omega) (by omega))) (List.getElem?_set_self (cell_lt hF)) (fun y hy => ?_) (by rw [nI_add])
      by_cases e : y = i
      · subst e; exact pk_uLs
      · rw [pk_uLn e]; exact hf y (by omega)
  refine EvP.s (fun _ _ K => Ev.go 2 rfl K) ?_
  exact L 32 h f0 0 _ (by omega) (AG.refl _ _ _) hF0 (fun y hy => absurd hy (Nat.not_lt_zero y)) rfl
theorem e_X_leastFilling (d : Nat) {h : sn_H} {f : Nat → Int64} {P : Nat → Nat} (h4 : h[4]? = some (.inl (1, 32, .inr (.inl f)))) (hf : ∀ y, y < 32 → f y = lN (P y)) (hP : ∀ y, y < 32 → P y < 2 ^ 32) : ∀ (n miss bd : Nat) (mv : Int64) (nv bv : Int32), mv = lN miss → nv = nI n → bv = nI bd → n < 4 → miss < 2 ^ 32 → bd ≤ 32 → Sp (d + n) me_X_leastFilling [.ref 4, .long mv, .int nv, .int bv] h (some (.long (onL (lf P n miss bd)))) h
  | 0, miss, bd, mv, nv, bv, e1, e2, e3, hn, hm, hbd => by
    subst e1; subst e2; subst e3
    refine Sp.of ok_X_leastFilling trivial rfl ?_
    refine Ev.go 1 rfl ?_
    refine Ev.zgt rfl rfl (by omega) (fun c1 => ?_) (fun c1 => ?_)
    · exact absurd c1 (by omega)
    refine Ev.go 2 rfl ?_
    refine Ev.lne rfl rfl rfl rfl (by omega) (by omega) (fun c6 => ?_) (fun c6 => ?_)
    · refine Ev.go 1 rfl ?_
      exact Ev.retl rfl (by
            show _ = onL (if miss = 0 then some 0 else none)
            rw [if_neg c6]
            rfl)
    refine Ev.go 2 rfl ?_
    exact Ev.retl rfl (by
          show _ = onL (if miss = 0 then some 0 else none)
          rw [if_pos c6]
          rfl)
  | n + 1, miss, bd, mv, nv, bv, e1, e2, e3, hn, hm, hbd => by
    subst e1; subst e2; subst e3
    generalize hz0 : lf P (n + 1) miss bd = z
    have hz0 : lfF (lf P n) P miss (bd - n) n = z := hz0
    refine Sp.of ok_X_leastFilling trivial rfl ?_
    have L : ∀ (m : Nat) (k : Nat) (kv : Int32) (v6 : Value), (bd - k = m) → (n ≤ k) → (k ≤ 32) → (lfF (lf P n) P miss (bd - k) k = z) → (kv = nI k) → Ev o0 (d + (n + 1)) me_X_leastFilling 23 [.ref 4, .long (lN miss), .retAddr 0, .int (nI (n + 1)), .int (nI bd), .int kv, v6, .retAddr 0] [] h (some (.long (onL z))) h := by
      intro m
      induction m using Nat.strongRecOn with
      | _ m ih =>
        intro k kv v6 k1 k2 k32 hz e5
        subst e5
        refine Ev.go 2 rfl ?_
        refine Ev.ige rfl rfl rfl (by omega) (by omega) (fun c27 => ?_) (fun c27 => ?_)
        · refine Ev.go 1 rfl ?_
          exact Ev.retl rfl (by
                rw [← hz, show bd - k = 0 by omega]
                rfl)
        refine Ev.go 2 rfl ?_
        refine Ev.ln rfl h4 rfl ?_
        refine Ev.ige rfl rfl rfl (by omega) (by omega) (fun c34 => ?_) (fun c34 => ?_)
        · refine Ev.go 1 rfl ?_
          exact absurd c34 (by omega)
        obtain ⟨j, hj⟩ : ∃ j, bd - k = j + 1 := ⟨bd - k - 1, by omega⟩
        rw [hj] at hz
        simp only [lfF] at hz
        refine Ev.go 2 rfl ?_
        refine Ev.lln rfl h4 rfl (by omega) (by omega) ?_
        rw [hf k (by omega)]
        refine Ev.go 3 rfl ?_
        refine Ev.leq rfl rfl (fb_andL _ _) rfl (Nat.lt_of_le_of_lt Nat.and_le_right (by omega)) (by omega) (fun c44 => ?_) (fun c44 => ?_)
        · refine Ev.go 2 rfl ?_
          exact ih (m - 1) (by omega) (k + 1) _ _ (by omega) (by omega) (by omega) (by rw [show bd - (k + 1) = j by omega, ← hz, if_pos c44]) (by rw [nI_add])
        rw [if_neg c44] at hz
        refine Ev.go 4 rfl ?_
        refine Ev.lln rfl h4 rfl (by omega) (by omega) ?_
        rw [hf k (by omega)]
        refine Ev.go 7 rfl ?_
        refine Ev.cs (E' := me_X_leastFilling) rfl mk_X_leastFilling ls_0_208 rfl rfl (e_X_leastFilling d h4 hf hP n (andn miss (P k)) k _ _ _ (lN_andn _ _) (by rw [pk_sub1 (by omega)]; rfl) rfl (by omega) (andn_lt hm) (by omega)) ?_
        refine Ev.go 1 rfl ?_
        skip
        refine Ev.go 2 rfl ?_
        refine Ev.req rfl rfl (fun c74 => ?_) (fun c74 => ?_)
        · refine Ev.go 2 rfl ?_
          have eo := (onL_m1 (fun v hv => Nat.lt_of_lt_of_le (sCv_lt ((lf_least P n _ _).1 v hv)) (Nat.pow_le_pow_right (by omega) (by omega)))).mp c74
          exact ih (m - 1) (by omega) (k + 1) _ _ (by omega) (by omega) (by omega) (by rw [show bd - (k + 1) = j by omega, ← hz, eo]) (by rw [nI_add])
        refine Ev.go 5 rfl ?_
        exact Ev.retl rfl (by
              cases eo : lf P n (andn miss (P k)) k with
              | none => rw [eo] at c74; exact absurd rfl c74
              | some lo =>
                rw [eo] at hz
                rw [← hz, sh1 (by omega)]
                exact fb_orL _ _)
    refine Ev.go 1 rfl ?_
    refine Ev.zgt rfl rfl (by omega) (fun c1 => ?_) (fun c1 => ?_)
    · refine Ev.go 4 rfl ?_
      exact L (bd - n) n _ _ rfl (Nat.le_refl _) (by omega) hz0 (by rw [pk_sub1 (by omega)]; rfl)
    exact absurd c1 (by omega)
theorem spl_lf {P : Nat → Nat} {miss sz v : Nat} (h1 : 1 ≤ sz) (h3 : sz ≤ 3) (hno : ∀ s, 1 ≤ s → s < sz → lf P s miss 32 = none) (h : lf P sz miss 32 = some v) : spl P miss = some v := by
  have hs : sz = 1 ∨ sz = 2 ∨ sz = 3 := by omega
  unfold spl
  rcases hs with rfl | rfl | rfl
  · rw [h]
  · rw [hno 1 (by omega) (by omega), h]
  · rw [hno 1 (by omega) (by omega), hno 2 (by omega) (by omega), h]
theorem spl_lfn {P : Nat → Nat} {miss : Nat} (hno : ∀ s, 1 ≤ s → s < 4 → lf P s miss 32 = none) : spl P miss = none := by
  unfold spl
  rw [hno 1 (by omega) (by omega), hno 2 (by omega) (by omega), hno 3 (by omega) (by omega)]
theorem uN_lt {P : Nat → Nat} {y : Nat} (h : ∀ z, z < 32 → P z < 2 ^ 32) : ∀ z, z < 32 → uN P y 0 z < 2 ^ 32 := fun z hz => by
  unfold uN; split
  · omega
  · exact h z hz
theorem Sp.dep {d d2 : Nat} {E : sn_E} {a : List Value} {h h' : sn_H} {r : Option Value} (q : Sp d2 E a h r h') (e : d2 = d) : Sp d E a h r h' := by subst e; exact q
theorem p_X_spoil (d : Nat) {h : sn_H} {μ : sn_S} (q : XR h μ) (kv yv : Int32) : SpP (d + 4) me_X_spoil [.ref 1, .int kv, .int yv] h (PXl h (an_spoil μ kv yv, μ)) := by
  have q0 := q
  obtain ⟨ws, fl, fb, ad, ru, cw, o⟩ := q
  have hX := o.1
  have hJ := o.2.2.2.1
  refine SpP.of ok_X_spoil (fun r h' z => z.rc) rfl ?_
  have L : ∀ (k y : Nat) (h1 : sn_H) (f1 : Nat → Int64), k < snb μ → y < 32 → XO h1 μ fl fb ad ru cw → AG h h1 4 1 → h1[4]? = some (.inl (1, 32, .inr (.inl f1))) → (∀ z, z < 32 → f1 z = lN ((uN (pls (sw μ) (sbk μ k)) y 0) z)) → ∀ (n : Nat) (sz : Nat) (zv : Int32) (v7 : Value), (sz + n = 4) → (1 ≤ sz) → (∀ s, 1 ≤ s → s < sz → lf (uN (pls (sw μ) (sbk μ k)) y 0) s (andn (pls (sw μ) (sbk μ k) y) (fil (sbk μ k))) 32 = none) → (zv = nI sz) → EvP o0 (d + 4) me_X_spoil 80 [.ref 1, .int (nI k), .int (nI y), .ref (ad k), .long (lN (andn (pls (sw μ) (sbk μ k) y) (fil (sbk μ k)))), .retAddr 0, .int zv, v7, .retAddr 0] [] h1 (PXl h (onL (spl (uN (pls (sw μ) (sbk μ k)) y 0) (andn (pls (sw μ) (sbk μ k) y) (fil (sbk μ k)))), μ)) := by
    intro k y h1 f1 hk1 hy o1 hA h41 hf1 n
    have hmiss := andn_lt (b := fil (sbk μ k)) (pls_lt (w := sw μ) (ws.2.2 k hk1) y)
    have hp1 := uN_lt (P := pls (sw μ) (sbk μ k)) (y := y) (fun z _ => pls_lt (ws.2.2 k hk1) z)
    have hX1 := o1.1
    induction n using Nat.strongRecOn with
    | _ n ih =>
      intro sz zv v7 k1 k2 hno e3
      subst e3
      refine EvP.s (fun _ _ K => Ev.go 2 rfl K) ?_
      refine EvP.igt rfl rfl rfl (by omega) (by omega) (fun c83 => ?_) (fun c83 => ?_)
      · refine EvP.s (fun _ _ K => Ev.go 1 rfl K) ?_
        refine ⟨_, _, Ev.retl rfl rfl, ?_⟩
        refine PXl.mk ⟨ws, _, _, _, _, _, o1⟩ hA.lw4 (hA.gb4 hJ ⟨_, h41⟩) ?_
        rw [spl_lfn (fun s h1 h2 => hno s h1 (by omega))]
        rfl
      refine EvP.s (fun _ _ K => Ev.go 1 rfl K) ?_
      refine EvP.s (fun _ _ K => Ev.gf rfl lf_0_28_0 hX1 rfl K) ?_
      refine EvP.s (fun _ _ K => Ev.go 3 rfl K) ?_
      refine EvP.s (fun _ _ K => Ev.cs (E' := me_X_leastFilling) rfl mk_X_leastFilling ls_0_208 rfl rfl ((e_X_leastFilling (d + 3 - sz) h41 hf1 hp1 sz _ _ _ _ _ rfl rfl rfl (by omega) hmiss (by omega)).dep (by omega)) K) ?_
      refine EvP.s (fun _ _ K => Ev.go 1 rfl K) ?_
      skip
      refine EvP.s (fun _ _ K => Ev.go 2 rfl K) ?_
      refine EvP.req rfl rfl (fun c106 => ?_) (fun c106 => ?_)
      · refine EvP.s (fun _ _ K => Ev.go 2 rfl K) ?_
        have eo := (onL_m1 (fun v hv => Nat.lt_of_lt_of_le (sCv_lt ((lf_least _ sz _ _).1 v hv)) (Nat.pow_le_pow_right (by omega) (by omega)))).mp c106
        refine ih (n - 1) (by omega) (sz + 1) _ _ (by omega) (by omega) (fun s h1 h2 => ?_) (by rw [nI_add])
        by_cases e : s = sz
        · subst e; exact eo
        · exact hno s h1 (by omega)
      refine EvP.s (fun _ _ K => Ev.go 1 rfl K) ?_
      refine ⟨_, _, Ev.retl rfl rfl, ?_⟩
      refine PXl.mk ⟨ws, _, _, _, _, _, o1⟩ hA.lw4 (hA.gb4 hJ ⟨_, h41⟩) ?_
      cases eo : lf (uN (pls (sw μ) (sbk μ k)) y 0) sz (andn (pls (sw μ) (sbk μ k) y) (fil (sbk μ k))) 32 with
      | none => rw [eo] at c106; exact absurd rfl c106
      | some v => rw [spl_lf k2 (by omega) hno eo]
  by_cases hk : rg kv (snb μ)
  · obtain ⟨k, hk1, hk2, rfl⟩ := rg_ex hk
    obtain ⟨_, h27, hR⟩ := o.2.2.2.2.2.2.1 k hk1
    have hb := ws.2.2 k hk1
    have hB := hR.1.1
    have h5 := hb.1
    have hci : sn_bk (bk (sbk μ k) + 3) := sn_bk_of hb.1
    refine EvP.s (fun _ _ K => Ev.go 2 rfl K) ?_
    refine EvP.s (fun _ _ K => Ev.cv (E' := me_X_find) rfl mk_X_find lv_0_102_0 rfl hX rfl (e_X_find_y (d + 3) ws o rfl hk1) K) ?_
    refine EvP.s (fun _ _ K => Ev.go 2 rfl K) ?_
    refine EvP.s (fun _ _ K => Ev.p rfl rfl trivial K) ?_
    refine EvP.s (fun _ _ K => Ev.go 1 rfl K) ?_
    refine EvP.s (fun _ _ K => Ev.cs (E' := me_X_isKey) rfl mk_X_isKey ls_0_43 rfl rfl (e_X_isKey (d + 3) _ _) K) ?_
    refine EvP.zn rfl rfl (fun c14 => ?_) (fun c14 => ?_)
    · obtain ⟨y, hy, hy2, rfl⟩ := rg_ex (ofd c14)
      have hmiss := andn_lt (b := fil (sbk μ k)) (pls_lt (w := sw μ) hb y)
      refine EvP.s (fun _ _ K => Ev.go 1 rfl K) ?_
      refine EvP.s (fun _ _ K => Ev.cs (E' := me_X_isPlainOrParted) rfl mk_X_isPlainOrParted ls_0_180 rfl rfl (e_X_isPlainOrParted (d + 3) hb hB) K) ?_
      refine EvP.zn rfl rfl (fun c25 => ?_) (fun c25 => ?_)
      · have h2k : bk (sbk μ k) ≤ 2 := by first | (have := ofd c25; omega) | omega
        refine EvP.s (fun _ _ K => Ev.go 2 rfl K) ?_
        refine EvP.s (fun _ _ K => Ev.cv (E' := vt_placeBits (bk (sbk μ k) + 3)) rfl (mkb_placeBits hci) (lvb_0_146 hci) rfl hB rfl (v_placeBits (d + 1) ws.1 hb hR.1 rfl hy) K) ?_
        refine EvP.s (fun _ _ K => Ev.go 1 rfl K) ?_
        refine EvP.s (fun _ _ K => Ev.cv (E' := vt_filledPlaces (bk (sbk μ k) + 3)) rfl (mkb_filledPlaces hci) (lvb_0_119 hci) rfl hB rfl (v_filledPlaces (d + 3) hb hB hR.2.1) K) ?_
        refine EvP.s (fun _ _ K => Ev.go 3 rfl K) ?_
        rw [lN_andn]
        refine EvP.s (fun _ _ K => Ev.go 3 rfl K) ?_
        refine EvP.lne rfl rfl rfl rfl (by omega) (by omega) (fun c59 => ?_) (fun c59 => ?_)
        · obtain ⟨r2, h2, sp2, er, hA2, f2, hS2, hf2⟩ := e_X_noteSpots d ws.1 hb hR h27 hX hJ
          subst er
          refine EvP.s (fun _ _ K => Ev.go 2 rfl K) ?_
          refine EvP.s (fun _ _ K => Ev.cv0 (E' := me_X_noteSpots) rfl mk_X_noteSpots lv_0_204_0 rfl hX rfl (sp2) K) ?_
          have o2 := o.sp hA2 ⟨_, hS2⟩
          have hX := o2.1
          have hS := hS2
          refine EvP.s (fun _ _ K => Ev.go 1 rfl K) ?_
          refine EvP.s (fun _ _ K => Ev.gf rfl lf_0_28_0 hX rfl K) ?_
          refine EvP.s (fun _ _ K => Ev.go 2 rfl K) ?_
          refine EvP.s (fun _ _ K => Ev.lsn rfl hS rfl (by omega) (by omega) K) ?_
          refine EvP.s (fun _ _ K => Ev.go 2 rfl K) ?_
          have hu : an_spoil μ (nI k) (nI y) = onL (spl (uN (pls (sw μ) (sbk μ k)) y 0) (andn (pls (sw μ) (sbk μ k) y) (fil (sbk μ k)))) := by
            unfold an_spoil; rw [tn_nI hk2, tn_nI hy2, if_neg (fun z => z ⟨hk, ofd c14⟩), if_neg (by omega), if_neg c59]
          rw [hu]
          have hA3 := hA2.trans (AG.set h2 (.inl (1, 32, .inr (.inl (vp_updL f2 y (lN 0))))) (a := 4) (n := 1) (i := 4) (by omega) (by omega))
          have hS3 : (h2.set 4 (.inl (1, 32, .inr (.inl (vp_updL f2 y (lN 0))))))[4]? = some (.inl (1, 32, .inr (.inl (vp_updL f2 y (lN 0))))) := List.getElem?_set_self (cell_lt hS2)
          exact L k y _ _ hk1 hy (o.sp hA3 ⟨_, hS3⟩) hA3 hS3 (fun z hz => by
            unfold uN
            by_cases e : z = y
            · subst e; rw [if_pos rfl]; exact pk_uLs
            · rw [if_neg e, pk_uLn e]; exact hf2 z hz) 3 1 _ _ (by omega) (by omega) (fun s h1 h2 => absurd h2 (by omega)) rfl
        refine EvP.s (fun _ _ K => Ev.go 1 rfl K) ?_
        refine ⟨_, _, Ev.retl rfl rfl, ?_⟩
        refine PXl.mk q0 (LW.refl _) (GB.refl _) ?_
        unfold an_spoil; rw [tn_nI hk2, tn_nI hy2, if_neg (fun z => z ⟨hk, ofd c14⟩), if_neg (by omega), if_pos c59]
        rfl
      refine EvP.s (fun _ _ K => Ev.go 1 rfl K) ?_
      refine EvP.s (fun _ _ K => Ev.gf rfl (lfb_0_110 (hci)) hB rfl K) ?_
      refine EvP.s (fun _ _ K => Ev.go 1 rfl K) ?_
      refine EvP.ieq rfl rfl rfl (by omega) (by omega) (fun c33 => ?_) (fun c33 => ?_)
      · have h2k : bk (sbk μ k) ≤ 2 := by first | (have := ofd c25; omega) | omega
        refine EvP.s (fun _ _ K => Ev.go 2 rfl K) ?_
        refine EvP.s (fun _ _ K => Ev.cv (E' := vt_placeBits (bk (sbk μ k) + 3)) rfl (mkb_placeBits hci) (lvb_0_146 hci) rfl hB rfl (v_placeBits (d + 1) ws.1 hb hR.1 rfl hy) K) ?_
        refine EvP.s (fun _ _ K => Ev.go 1 rfl K) ?_
        refine EvP.s (fun _ _ K => Ev.cv (E' := vt_filledPlaces (bk (sbk μ k) + 3)) rfl (mkb_filledPlaces hci) (lvb_0_119 hci) rfl hB rfl (v_filledPlaces (d + 3) hb hB hR.2.1) K) ?_
        refine EvP.s (fun _ _ K => Ev.go 3 rfl K) ?_
        rw [lN_andn]
        refine EvP.s (fun _ _ K => Ev.go 3 rfl K) ?_
        refine EvP.lne rfl rfl rfl rfl (by omega) (by omega) (fun c59 => ?_) (fun c59 => ?_)
        · obtain ⟨r2, h2, sp2, er, hA2, f2, hS2, hf2⟩ := e_X_noteSpots d ws.1 hb hR h27 hX hJ
          subst er
          refine EvP.s (fun _ _ K => Ev.go 2 rfl K) ?_
          refine EvP.s (fun _ _ K => Ev.cv0 (E' := me_X_noteSpots) rfl mk_X_noteSpots lv_0_204_0 rfl hX rfl (sp2) K) ?_
          have o2 := o.sp hA2 ⟨_, hS2⟩
          have hX := o2.1
          have hS := hS2
          refine EvP.s (fun _ _ K => Ev.go 1 rfl K) ?_
          refine EvP.s (fun _ _ K => Ev.gf rfl lf_0_28_0 hX rfl K) ?_
          refine EvP.s (fun _ _ K => Ev.go 2 rfl K) ?_
          refine EvP.s (fun _ _ K => Ev.lsn rfl hS rfl (by omega) (by omega) K) ?_
          refine EvP.s (fun _ _ K => Ev.go 2 rfl K) ?_
          have hu : an_spoil μ (nI k) (nI y) = onL (spl (uN (pls (sw μ) (sbk μ k)) y 0) (andn (pls (sw μ) (sbk μ k) y) (fil (sbk μ k)))) := by
            unfold an_spoil; rw [tn_nI hk2, tn_nI hy2, if_neg (fun z => z ⟨hk, ofd c14⟩), if_neg (by omega), if_neg c59]
          rw [hu]
          have hA3 := hA2.trans (AG.set h2 (.inl (1, 32, .inr (.inl (vp_updL f2 y (lN 0))))) (a := 4) (n := 1) (i := 4) (by omega) (by omega))
          have hS3 : (h2.set 4 (.inl (1, 32, .inr (.inl (vp_updL f2 y (lN 0))))))[4]? = some (.inl (1, 32, .inr (.inl (vp_updL f2 y (lN 0))))) := List.getElem?_set_self (cell_lt hS2)
          exact L k y _ _ hk1 hy (o.sp hA3 ⟨_, hS3⟩) hA3 hS3 (fun z hz => by
            unfold uN
            by_cases e : z = y
            · subst e; rw [if_pos rfl]; exact pk_uLs
            · rw [if_neg e, pk_uLn e]; exact hf2 z hz) 3 1 _ _ (by omega) (by omega) (fun s h1 h2 => absurd h2 (by omega)) rfl
        refine EvP.s (fun _ _ K => Ev.go 1 rfl K) ?_
        refine ⟨_, _, Ev.retl rfl rfl, ?_⟩
        refine PXl.mk q0 (LW.refl _) (GB.refl _) ?_
        unfold an_spoil; rw [tn_nI hk2, tn_nI hy2, if_neg (fun z => z ⟨hk, ofd c14⟩), if_neg (by omega), if_pos c59]
        rfl
      refine EvP.s (fun _ _ K => Ev.go 1 rfl K) ?_
      refine ⟨_, _, Ev.retl rfl rfl, ?_⟩
      refine PXl.mk q0 (LW.refl _) (GB.refl _) ?_
      unfold an_spoil; rw [tn_nI hk2, tn_nI hy2, if_neg (fun z => z ⟨hk, ofd c14⟩), if_pos (by have := ofn c25; omega)]
    refine EvP.s (fun _ _ K => Ev.go 1 rfl K) ?_
    refine ⟨_, _, Ev.retl rfl rfl, ?_⟩
    refine PXl.mk q0 (LW.refl _) (GB.refl _) ?_
    unfold an_spoil; rw [if_pos (fun z => ofn c14 z.2)]
  · refine EvP.s (fun _ _ K => Ev.go 2 rfl K) ?_
    refine EvP.s (fun _ _ K => Ev.cv (E' := me_X_find) rfl mk_X_find lv_0_102_0 rfl hX rfl (e_X_find_n (d + 3) q0 hk) K) ?_
    refine EvP.s (fun _ _ K => Ev.go 2 rfl K) ?_
    refine EvP.s (fun _ _ K => Ev.p rfl rfl trivial K) ?_
    refine EvP.s (fun _ _ K => Ev.go 1 rfl K) ?_
    refine ⟨_, _, Ev.retl rfl rfl, ?_⟩
    refine PXl.mk q0 (LW.refl _) (GB.refl _) ?_
    unfold an_spoil; rw [if_pos (fun z => hk z.1)]
