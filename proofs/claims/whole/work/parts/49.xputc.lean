/-! THE CLASS: put, take -/
/-- the cells of the script and of the reference stay -/
def LW (h h' : sn_H) : Prop := ∀ i, (i = 0 ∨ (5 ≤ i ∧ i < 27)) → i < h.length → h'[i]? = h[i]?
theorem LW.refl (h : sn_H) : LW h h := fun _ _ _ => rfl
theorem AG.lw {h h' : sn_H} {a n : Nat} (g : AG h h' a n) (ha : 27 ≤ a) : LW h h' := fun i hi _ => g.2 i (by omega)
def PXi (h : sn_H) (z : Int32 × sn_S) (r : Option Value) (h' : sn_H) : Prop := r = some (.int z.1) ∧ XR h' z.2 ∧ LW h h' ∧ GB h h'
theorem PXi.rc {h : sn_H} {z : Int32 × sn_S} {r : Option Value} {h' : sn_H} (q : PXi h z r h') : sn_rc (some .int) r := by
  obtain ⟨rfl, _⟩ := q; trivial
theorem PXi.mk {h h' : sn_H} {z : Int32 × sn_S} {v : Int32} {μ : sn_S} (q : XR h' μ) (g : LW h h') (gb : GB h h') (e : (v, μ) = z) : PXi h z (some (.int v)) h' := by
  subst e; exact ⟨rfl, q, g, gb⟩
theorem v_letsPut (d : Nat) (h : sn_H) (ad : Nat) {n : Nat} {b : sn_Bk} (hb : WB n b) : Sp d (vt_letsPut (bk b + 3)) [.ref ad] h (some (.int (b2i (decide (bk b ≠ 4 ∧ bk b ≠ 5))))) h := by
  have hk : bk b = 0 ∨ bk b = 1 ∨ bk b = 2 ∨ bk b = 3 ∨ bk b = 4 ∨ bk b = 5 := by have := hb.1; omega
  rcases hk with e | e | e | e | e | e <;> rw [e]
  · exact e_P_letsPut d h ad
  · exact e_P_letsPut d h ad
  · exact e_P_letsPut d h ad
  · exact e_U_letsPut d h ad
  · exact e_F_letsPut d h ad
  · exact e_L_letsPut d h ad
theorem v_letsTake (d : Nat) (h : sn_H) (ad : Nat) {n : Nat} {b : sn_Bk} (hb : WB n b) : Sp d (vt_letsTake (bk b + 3)) [.ref ad] h (some (.int (b2i (decide (bk b = 1 ∨ bk b = 3))))) h := by
  have hk : bk b = 0 ∨ bk b = 1 ∨ bk b = 2 ∨ bk b = 3 ∨ bk b = 4 ∨ bk b = 5 := by have := hb.1; omega
  rcases hk with e | e | e | e | e | e <;> rw [e]
  · exact e_B_letsTake d h ad
  · exact e_C_letsTake d h ad
  · exact e_B_letsTake d h ad
  · exact e_U_letsTake d h ad
  · exact e_B_letsTake d h ad
  · exact e_B_letsTake d h ad
theorem v_insert (d : Nat) {h : sn_H} {w : sn_Lw} {b : sn_Bk} {ad ru : Nat} (hw : WL w) (hb : WB w.1 b) (hR : BR h w b ad ru) {y : Nat} {yv : Int32} (e1 : yv = nI y) (hy : y < 32) (hk : bk b ≠ 4 ∧ bk b ≠ 5) : SpP (d + 3) (vt_insert (bk b + 3)) [.ref ad, .int yv] h (PI h w b ad ru (nput w b y).isSome ((nput w b y).getD (bn b))) := by
  have hk : bk b = 0 ∨ bk b = 1 ∨ bk b = 2 ∨ bk b = 3 := by have := hb.1; omega
  by_cases h3 : bk b = 3
  · have e : nput w b y = psh (bm b) (bn b) (frs w b y) (mrk w b 1 y) := if_pos h3
    have z := e_U_insert d hw hb hR e1 hy h3
    rw [e, show vt_insert (bk b + 3) = me_U_insert by rw [h3]; rfl]
    exact z
  · have e : nput w b y = some (gput (bk b) (bm b) (pls w b y) (bn b)) := if_neg h3
    rw [e]
    by_cases h1 : bk b = 1
    · rw [show vt_insert (bk b + 3) = me_C_insert by rw [h1]; rfl]
      exact e_C_insert d hw hb hR e1 hy h1
    · have h02 : bk b = 0 ∨ bk b = 2 := by omega
      rw [show vt_insert (bk b + 3) = me_P_insert by rcases h02 with e | e <;> rw [e] <;> rfl]
      exact e_P_insert d hw hb hR e1 hy h02
theorem v_remove (d : Nat) {h : sn_H} {w : sn_Lw} {b : sn_Bk} {ad ru : Nat} (hw : WL w) (hb : WB w.1 b) (hR : BR h w b ad ru) {y : Nat} {yv : Int32} (e1 : yv = nI y) (hy : y < 32) (hk : bk b = 1 ∨ bk b = 3) (hin : isin w b y = true) : SpP (d + 3) (vt_remove (bk b + 3)) [.ref ad, .int yv] h (PT h w b ad ru (ntak w b y)) := by
  rcases hk with h1 | h3
  · have e : ntak w b y = gtak (bm b) (pls w b y) (bn b) := if_neg (by omega)
    rw [e, show vt_remove (bk b + 3) = me_C_remove by rw [h1]; rfl]
    exact e_C_remove d hw hb hR e1 hy h1
  · rw [show vt_remove (bk b + 3) = me_U_remove by rw [h3]; rfl]
    exact e_U_remove (d + 1) hw hb hR e1 hy h3 hin
theorem pshF_ok {m : Nat} (hm : 0 < m) : ∀ {n : Nat} {g : Nat → Nat} {p f : Nat} {g1 : Nat → Nat}, (∀ i, g i ≤ 7) → p < m → f ≤ 7 → pshF m n g p f = some g1 → (∀ i, g1 i ≤ 7) ∧ ∀ i, m ≤ i → g1 i = g i
  | 0, g, p, f, g1, _, _, _, h => by cases h
  | n + 1, g, p, f, g1, h7, hp, hf, h => by
    have ho := oth_lt p (g p) hm
    unfold pshF at h
    split at h
    · cases h
      refine ⟨uN_le (uN_le h7 hf) (h7 p), fun i hi => ?_⟩
      show uN (uN g p f) (oth m p (g p)) (g p) i = g i
      rw [show uN (uN g p f) (oth m p (g p)) (g p) i = uN g p f i from if_neg (by omega)]
      exact if_neg (by omega)
    · obtain ⟨a, c⟩ := pshF_ok hm (uN_le h7 hf) ho (h7 p) h
      exact ⟨a, fun i hi => (c i hi).trans (if_neg (by omega))⟩
theorem nput_ok {w : sn_Lw} {b : sn_Bk} {n y : Nat} (hb : WB n b) : ∀ g1, nput w b y = some g1 → (∀ i, g1 i ≤ 7) ∧ ∀ i, bm b ≤ i → g1 i = 0 := by
  intro g1 h
  have hm := hb.2.1
  have h7 := hb.2.2.2.2.2.2.2.1
  have hz := hb.2.2.2.2.2.2.2.2.1
  have hfl := frs_lt (w := w) hb y
  have hmk := mrk_le (w := w) (b := b) 1 y
  have ho := oth_lt (frs w b y) (mrk w b 1 y) (show 0 < bm b by omega)
  unfold nput at h
  split at h
  · unfold psh at h
    split at h
    · cases h
      exact ⟨uN_le h7 (by omega), fun i hi => (if_neg (by omega)).trans (hz i hi)⟩
    · split at h
      · cases h
        exact ⟨uN_le h7 (by omega), fun i hi => (if_neg (by omega)).trans (hz i hi)⟩
      · obtain ⟨a, c⟩ := pshF_ok (by omega) h7 hfl (by omega) h
        exact ⟨a, fun i hi => (c i hi).trans (hz i hi)⟩
  · cases h
    refine ⟨gput_le h7, fun i hi => ?_⟩
    unfold gput
    rw [if_neg (fun z => by omega)]
    exact hz i hi
theorem p_X_put (d : Nat) {h : sn_H} {μ : sn_S} (q : XR h μ) (kv yv : Int32) : SpP (d + 4) me_X_put [.ref 1, .int kv, .int yv] h (PXi h (an_put μ kv yv)) := by
  have q0 := q
  obtain ⟨⟨hw, h8, hWB⟩, fl, fb, ad, ru, cw, o⟩ := q
  have hX := o.1
  generalize hz : an_put μ kv yv = z
  refine SpP.of ok_X_put (fun r h' z => z.rc) rfl ?_
  by_cases hk : rg kv (snb μ)
  · obtain ⟨k, hk1, hk2, rfl⟩ := rg_ex hk
    obtain ⟨hfb, h27, hR⟩ := o.2.2.2.2.2.2.1 k hk1
    have hb := hWB k hk1
    have hB := hR.1.1
    have hm := hb.2.1
    have h99 := hb.2.2.2.2.2.2.2.2.2.1
    have hci : sn_bk (bk (sbk μ k) + 3) := sn_bk_of hb.1
    obtain ⟨fT, hT, hTn⟩ := id hR.2.2.1
    refine EvP.s (fun _ _ K => Ev.go 2 rfl K) ?_
    refine EvP.s (fun _ _ K => Ev.cv (E' := me_X_find) rfl mk_X_find lv_0_102_0 rfl hX rfl (e_X_find_y (d + 3) ⟨hw, h8, hWB⟩ o rfl hk1) K) ?_
    refine EvP.s (fun _ _ K => Ev.go 2 rfl K) ?_
    refine EvP.s (fun _ _ K => Ev.p rfl rfl trivial K) ?_
    refine EvP.s (fun _ _ K => Ev.go 1 rfl K) ?_
    refine EvP.s (fun _ _ K => Ev.cs (E' := me_X_isKey) rfl mk_X_isKey ls_0_43 rfl rfl (e_X_isKey (d + 3) _ _) K) ?_
    refine EvP.zn rfl rfl (fun c14 => ?_) (fun c14 => ?_)
    · obtain ⟨y, hy, hy2, rfl⟩ := rg_ex (ofd c14)
      refine EvP.s (fun _ _ K => Ev.go 1 rfl K) ?_
      refine EvP.s (fun _ _ K => Ev.cv (E' := vt_letsPut (bk (sbk μ k) + 3)) rfl (mkb_letsPut hci) (lvb_0_149 hci) rfl hB rfl (v_letsPut (d + 3) h _ hb) K) ?_
      refine EvP.zb rfl rfl (fun c24 => ?_) (fun c24 => ?_)
      · refine EvP.s (fun _ _ K => Ev.go 1 rfl K) ?_
        refine ⟨_, _, Ev.reti rfl rfl, ?_⟩
        refine PXi.mk q0 (LW.refl _) (GB.refl _) ?_
        rw [← hz]; unfold an_put; rw [tn_nI hk2, tn_nI hy2, if_neg (fun z => z ⟨hk, ofd c14⟩), if_pos (by have := ofn c24; omega)]
      refine EvP.s (fun _ _ K => Ev.go 1 rfl K) ?_
      refine EvP.s (fun _ _ K => Ev.gf rfl (lfb_0_153 (hci)) hB rfl K) ?_
      refine EvP.s (fun _ _ K => Ev.go 1 rfl K) ?_
      refine EvP.s (fun _ _ K => Ev.iln rfl hT rfl (by omega) (by omega) K) ?_
      rw [hTn y (by omega)]
      refine EvP.s (fun _ _ K => Ev.go 1 rfl K) ?_
      refine EvP.ilt rfl rfl rfl (by have := h99 y; omega) (by omega) (fun c35 => ?_) (fun c35 => ?_)
      · obtain ⟨r2, h2, sp2, er, hA2, hR2⟩ := v_insert d hw hb hR rfl hy (ofd c24)
        subst er
        refine EvP.s (fun _ _ K => Ev.go 2 rfl K) ?_
        refine EvP.s (fun _ _ K => Ev.cv (E' := vt_holds (bk (sbk μ k) + 3)) rfl (mkb_holds hci) (lvb_0_156 hci) rfl hB rfl (v_holds d hw hb hR rfl hy) K) ?_
        refine EvP.s (fun _ _ K => Ev.go 3 rfl K) ?_
        refine EvP.s (fun _ _ K => Ev.cv (E' := vt_insert (bk (sbk μ k) + 3)) rfl (mkb_insert hci) (lvb_0_159 hci) rfl hB rfl (sp2) K) ?_
        refine EvP.zn rfl rfl (fun c53 => ?_) (fun c53 => ?_)
        · obtain ⟨g1, hg1⟩ : ∃ g1, nput (sw μ) (sbk μ k) y = some g1 := Option.isSome_iff_exists.mp c53
          have hB := hR2.1.1
          obtain ⟨fT, hT, hTn⟩ := id hR2.2.2.1
          have hn7 := nput_ok (w := sw μ) (y := y) hb g1 hg1
          refine EvP.s (fun _ _ K => Ev.go 1 rfl K) ?_
          refine EvP.s (fun _ _ K => Ev.gf rfl (lfb_0_153 (hci)) hB rfl K) ?_
          refine EvP.s (fun _ _ K => Ev.go 2 rfl K) ?_
          refine EvP.s (fun _ _ K => Ev.iln rfl hT rfl (by omega) (by omega) K) ?_
          rw [hTn y (by omega), show bt (bnu (sbk μ k) ((nput (sw μ) (sbk μ k) y).getD (bn (sbk μ k)))) y = bt (sbk μ k) y from rfl]
          refine EvP.s (fun _ _ K => Ev.go 2 rfl K) ?_
          refine EvP.s (fun _ _ K => Ev.isn rfl hT rfl (by omega) (by omega) K) ?_
          refine EvP.s (fun _ _ K => Ev.go 1 rfl K) ?_
          refine EvP.zb rfl rfl (fun c71 => ?_) (fun c71 => ?_)
          · refine EvP.s (fun _ _ K => Ev.go 1 rfl K) ?_
            refine ⟨_, _, Ev.reti rfl rfl, ?_⟩
            rw [hg1] at hR2
            have hl := bln_3 (sbk μ k)
            have hR3 := hR2.tim hT (i := y) (v := bt (sbk μ k) y + 1) (x := nI (bt (sbk μ k) y) + nI 1) (by rw [nI_add])
            have hA3 := hA2.trans (AG.set h2 (.inl (0, 32, .inl (upd fT y (nI (bt (sbk μ k) y) + nI 1)))) (a := ad k) (n := bln (sbk μ k)) (i := ad k + 2) (by omega) (by omega))
            have o2 := o.chg ⟨hw, h8, hWB⟩ hk1 (b' := btu (bnu (sbk μ k) g1) (uN (bt (sbk μ k)) y (bt (sbk μ k) y + 1))) rfl hA3 hR3
            refine PXi.mk ⟨WS.setB (μ := μ) ⟨hw, h8, hWB⟩ ((hb.bnu hn7.1 hn7.2).btu (fun i => by have := h99 i; unfold uN; split <;> omega)), _, _, _, _, _, o2⟩ (hA3.lw h27) (GB.ag hR hR3 rfl hA3) ?_
            rw [← hz]; unfold an_put; rw [tn_nI hk2, tn_nI hy2, if_neg (fun z => z ⟨hk, ofd c14⟩), if_neg (by have := ofd c24; omega), hg1]
            simp only [c71]
            rfl
          refine EvP.s (fun _ _ K => Ev.go 2 rfl K) ?_
          refine ⟨_, _, Ev.reti rfl rfl, ?_⟩
          rw [hg1] at hR2
          have hl := bln_3 (sbk μ k)
          have hR3 := hR2.tim hT (i := y) (v := bt (sbk μ k) y + 1) (x := nI (bt (sbk μ k) y) + nI 1) (by rw [nI_add])
          have hA3 := hA2.trans (AG.set h2 (.inl (0, 32, .inl (upd fT y (nI (bt (sbk μ k) y) + nI 1)))) (a := ad k) (n := bln (sbk μ k)) (i := ad k + 2) (by omega) (by omega))
          have o2 := o.chg ⟨hw, h8, hWB⟩ hk1 (b' := btu (bnu (sbk μ k) g1) (uN (bt (sbk μ k)) y (bt (sbk μ k) y + 1))) rfl hA3 hR3
          refine PXi.mk ⟨WS.setB (μ := μ) ⟨hw, h8, hWB⟩ ((hb.bnu hn7.1 hn7.2).btu (fun i => by have := h99 i; unfold uN; split <;> omega)), _, _, _, _, _, o2⟩ (hA3.lw h27) (GB.ag hR hR3 rfl hA3) ?_
          rw [← hz]; unfold an_put; rw [tn_nI hk2, tn_nI hy2, if_neg (fun z => z ⟨hk, ofd c14⟩), if_neg (by have := ofd c24; omega), hg1]
          simp only [c71]
          rfl
        refine EvP.s (fun _ _ K => Ev.go 1 rfl K) ?_
        refine ⟨_, _, Ev.reti rfl rfl, ?_⟩
        have en : nput (sw μ) (sbk μ k) y = none := by cases e : nput (sw μ) (sbk μ k) y with | none => rfl | some _ => rw [e] at c53; cases c53
        rw [en] at hR2
        have o2 := o.chg ⟨hw, h8, hWB⟩ hk1 (b' := sbk μ k) rfl hA2 hR2
        rw [setB_id] at o2
        refine PXi.mk ⟨⟨hw, h8, hWB⟩, _, _, _, _, _, o2⟩ (hA2.lw h27) (GB.ag hR hR2 rfl hA2) ?_
        rw [← hz]; unfold an_put; rw [tn_nI hk2, tn_nI hy2, if_neg (fun z => z ⟨hk, ofd c14⟩), if_neg (by have := ofd c24; omega), en]
      refine EvP.s (fun _ _ K => Ev.go 1 rfl K) ?_
      refine ⟨_, _, Ev.reti rfl rfl, ?_⟩
      refine PXi.mk q0 (LW.refl _) (GB.refl _) ?_
      rw [← hz]; unfold an_put; rw [tn_nI hk2, tn_nI hy2, if_neg (fun z => z ⟨hk, ofd c14⟩), if_pos (by have := h99 y; omega)]
    refine EvP.s (fun _ _ K => Ev.go 1 rfl K) ?_
    refine ⟨_, _, Ev.reti rfl rfl, ?_⟩
    refine PXi.mk q0 (LW.refl _) (GB.refl _) ?_
    rw [← hz]; unfold an_put; rw [if_pos (fun z => ofn c14 z.2)]
  · refine EvP.s (fun _ _ K => Ev.go 2 rfl K) ?_
    refine EvP.s (fun _ _ K => Ev.cv (E' := me_X_find) rfl mk_X_find lv_0_102_0 rfl hX rfl (e_X_find_n (d + 3) q0 hk) K) ?_
    refine EvP.s (fun _ _ K => Ev.go 2 rfl K) ?_
    refine EvP.s (fun _ _ K => Ev.p rfl rfl trivial K) ?_
    refine EvP.s (fun _ _ K => Ev.go 1 rfl K) ?_
    refine ⟨_, _, Ev.reti rfl rfl, ?_⟩
    refine PXi.mk q0 (LW.refl _) (GB.refl _) ?_
    rw [← hz]; unfold an_put; rw [if_pos (fun z => hk z.1)]
theorem gtak_ok {w : sn_Lw} {b : sn_Bk} {n y : Nat} (hb : WB n b) : (∀ i, ntak w b y i ≤ 7) ∧ ∀ i, bm b ≤ i → ntak w b y i = 0 := by
  have h7 := hb.2.2.2.2.2.2.2.1
  have hz := hb.2.2.2.2.2.2.2.2.1
  have hm := hb.2.1
  have hfl := frs_lt (w := w) hb y
  have ho := oth_lt (frs w b y) (mrk w b 1 y) (show 0 < bm b by omega)
  unfold ntak
  split
  · refine ⟨uN_le h7 (by omega), fun i hi => ?_⟩
    refine (if_neg ?_).trans (hz i hi)
    split <;> omega
  · refine ⟨gtak_le h7, fun i hi => ?_⟩
    unfold gtak
    rw [if_neg (fun z => by omega)]
    exact hz i hi
theorem p_X_take (d : Nat) {h : sn_H} {μ : sn_S} (q : XR h μ) (kv yv : Int32) : SpP (d + 4) me_X_take [.ref 1, .int kv, .int yv] h (PXi h (an_take μ kv yv)) := by
  have q0 := q
  obtain ⟨⟨hw, h8, hWB⟩, fl, fb, ad, ru, cw, o⟩ := q
  have hX := o.1
  generalize hz : an_take μ kv yv = z
  refine SpP.of ok_X_take (fun r h' z => z.rc) rfl ?_
  by_cases hk : rg kv (snb μ)
  · obtain ⟨k, hk1, hk2, rfl⟩ := rg_ex hk
    obtain ⟨hfb, h27, hR⟩ := o.2.2.2.2.2.2.1 k hk1
    have hb := hWB k hk1
    have hB := hR.1.1
    have hm := hb.2.1
    have h99 := hb.2.2.2.2.2.2.2.2.2.1
    have hci : sn_bk (bk (sbk μ k) + 3) := sn_bk_of hb.1
    obtain ⟨fT, hT, hTn⟩ := id hR.2.2.1
    refine EvP.s (fun _ _ K => Ev.go 2 rfl K) ?_
    refine EvP.s (fun _ _ K => Ev.cv (E' := me_X_find) rfl mk_X_find lv_0_102_0 rfl hX rfl (e_X_find_y (d + 3) ⟨hw, h8, hWB⟩ o rfl hk1) K) ?_
    refine EvP.s (fun _ _ K => Ev.go 2 rfl K) ?_
    refine EvP.s (fun _ _ K => Ev.p rfl rfl trivial K) ?_
    refine EvP.s (fun _ _ K => Ev.go 1 rfl K) ?_
    refine EvP.s (fun _ _ K => Ev.cs (E' := me_X_isKey) rfl mk_X_isKey ls_0_43 rfl rfl (e_X_isKey (d + 3) _ _) K) ?_
    refine EvP.zn rfl rfl (fun c14 => ?_) (fun c14 => ?_)
    · obtain ⟨y, hy, hy2, rfl⟩ := rg_ex (ofd c14)
      refine EvP.s (fun _ _ K => Ev.go 1 rfl K) ?_
      refine EvP.s (fun _ _ K => Ev.cv (E' := vt_letsTake (bk (sbk μ k) + 3)) rfl (mkb_letsTake hci) (lvb_0_162 hci) rfl hB rfl (v_letsTake (d + 3) h _ hb) K) ?_
      refine EvP.zb rfl rfl (fun c24 => ?_) (fun c24 => ?_)
      · refine EvP.s (fun _ _ K => Ev.go 1 rfl K) ?_
        refine ⟨_, _, Ev.reti rfl rfl, ?_⟩
        refine PXi.mk q0 (LW.refl _) (GB.refl _) ?_
        rw [← hz]; unfold an_take; rw [tn_nI hk2, tn_nI hy2, if_neg (fun z => z ⟨hk, ofd c14⟩), if_pos (fun z => ofn c24 z.1)]
      refine EvP.s (fun _ _ K => Ev.go 2 rfl K) ?_
      refine EvP.s (fun _ _ K => Ev.cv (E' := vt_holds (bk (sbk μ k) + 3)) rfl (mkb_holds hci) (lvb_0_156 hci) rfl hB rfl (v_holds d hw hb hR rfl hy) K) ?_
      refine EvP.zn rfl rfl (fun c32 => ?_) (fun c32 => ?_)
      · obtain ⟨r2, h2, sp2, er, hA2, hR2⟩ := v_remove d hw hb hR rfl hy (ofd c24) c32
        subst er
        have hg := gtak_ok (w := sw μ) (y := y) hb
        have hl := bln_3 (sbk μ k)
        refine EvP.s (fun _ _ K => Ev.go 2 rfl K) ?_
        refine EvP.s (fun _ _ K => Ev.cv0 (E' := vt_remove (bk (sbk μ k) + 3)) rfl (mkb_remove hci) (lvb_0_165 hci) rfl hB rfl (sp2) K) ?_
        have hB := hR2.1.1
        obtain ⟨fT, hT, hTn⟩ := id hR2.2.2.1
        have hTn : ∀ i, i < 32 → fT i = nI (bt (sbk μ k) i) := hTn
        refine EvP.s (fun _ _ K => Ev.go 1 rfl K) ?_
        refine EvP.s (fun _ _ K => Ev.gf rfl (lfb_0_153 (hci)) hB rfl K) ?_
        refine EvP.s (fun _ _ K => Ev.go 1 rfl K) ?_
        refine EvP.s (fun _ _ K => Ev.iln rfl hT rfl (by omega) (by omega) K) ?_
        rw [hTn y (by omega)]
        refine EvP.zne rfl rfl (by have := h99 y; omega) (fun c49 => ?_) (fun c49 => ?_)
        · refine EvP.s (fun _ _ K => Ev.go 1 rfl K) ?_
          refine EvP.s (fun _ _ K => Ev.gf rfl (lfb_0_153 (hci)) hB rfl K) ?_
          refine EvP.s (fun _ _ K => Ev.go 2 rfl K) ?_
          refine EvP.s (fun _ _ K => Ev.iln rfl hT rfl (by omega) (by omega) K) ?_
          rw [hTn y (by omega)]
          refine EvP.s (fun _ _ K => Ev.go 2 rfl K) ?_
          refine EvP.s (fun _ _ K => Ev.isn rfl hT rfl (by omega) (by omega) K) ?_
          refine EvP.s (fun _ _ K => Ev.go 1 rfl K) ?_
          refine ⟨_, _, Ev.reti rfl rfl, ?_⟩
          have hR3 := hR2.tim hT (i := y) (v := bt (sbk μ k) y - 1) (x := nI (bt (sbk μ k) y) - nI 1) (pk_sub1 c49)
          have hA3 := hA2.trans (AG.set h2 (.inl (0, 32, .inl (upd fT y (nI (bt (sbk μ k) y) - nI 1)))) (a := ad k) (n := bln (sbk μ k)) (i := ad k + 2) (by omega) (by omega))
          have o2 := o.chg ⟨hw, h8, hWB⟩ hk1 (b' := btu (bnu (sbk μ k) (ntak (sw μ) (sbk μ k) y)) (uN (bt (sbk μ k)) y (bt (sbk μ k) y - 1))) rfl hA3 hR3
          refine PXi.mk ⟨WS.setB (μ := μ) ⟨hw, h8, hWB⟩ ((hb.bnu hg.1 hg.2).btu (fun i => by have := h99 i; have := h99 y; unfold uN; split <;> omega)), _, _, _, _, _, o2⟩ (hA3.lw h27) (GB.ag hR hR3 rfl hA3) ?_
          rw [← hz]; unfold an_take; rw [tn_nI hk2, tn_nI hy2, if_neg (fun z => z ⟨hk, ofd c14⟩), if_neg (fun z => z ⟨ofd c24, c32⟩), if_pos c49]
        refine EvP.s (fun _ _ K => Ev.go 1 rfl K) ?_
        refine ⟨_, _, Ev.reti rfl rfl, ?_⟩
        have eb : btu (bnu (sbk μ k) (ntak (sw μ) (sbk μ k) y)) (uN (bt (sbk μ k)) y (bt (sbk μ k) y - 1)) = bnu (sbk μ k) (ntak (sw μ) (sbk μ k) y) := by
          have e : uN (bt (sbk μ k)) y (bt (sbk μ k) y - 1) = bt (sbk μ k) := by
            funext i; unfold uN; split
            · rename_i e; subst e; omega
            · rfl
          rw [e]; rfl
        have o2 := o.chg ⟨hw, h8, hWB⟩ hk1 (b' := bnu (sbk μ k) (ntak (sw μ) (sbk μ k) y)) rfl hA2 hR2
        refine PXi.mk ⟨WS.setB (μ := μ) ⟨hw, h8, hWB⟩ (hb.bnu hg.1 hg.2), _, _, _, _, _, o2⟩ (hA2.lw h27) (GB.ag hR hR2 rfl hA2) ?_
        rw [← hz]; unfold an_take; rw [tn_nI hk2, tn_nI hy2, if_neg (fun z => z ⟨hk, ofd c14⟩), if_neg (fun z => z ⟨ofd c24, c32⟩), if_neg (by omega), eb]
      refine EvP.s (fun _ _ K => Ev.go 1 rfl K) ?_
      refine ⟨_, _, Ev.reti rfl rfl, ?_⟩
      refine PXi.mk q0 (LW.refl _) (GB.refl _) ?_
      rw [← hz]; unfold an_take; rw [tn_nI hk2, tn_nI hy2, if_neg (fun z => z ⟨hk, ofd c14⟩), if_pos (fun z => by rw [c32] at z; cases z.2)]
    refine EvP.s (fun _ _ K => Ev.go 1 rfl K) ?_
    refine ⟨_, _, Ev.reti rfl rfl, ?_⟩
    refine PXi.mk q0 (LW.refl _) (GB.refl _) ?_
    rw [← hz]; unfold an_take; rw [if_pos (fun z => ofn c14 z.2)]
  · refine EvP.s (fun _ _ K => Ev.go 2 rfl K) ?_
    refine EvP.s (fun _ _ K => Ev.cv (E' := me_X_find) rfl mk_X_find lv_0_102_0 rfl hX rfl (e_X_find_n (d + 3) q0 hk) K) ?_
    refine EvP.s (fun _ _ K => Ev.go 2 rfl K) ?_
    refine EvP.s (fun _ _ K => Ev.p rfl rfl trivial K) ?_
    refine EvP.s (fun _ _ K => Ev.go 1 rfl K) ?_
    refine ⟨_, _, Ev.reti rfl rfl, ?_⟩
    refine PXi.mk q0 (LW.refl _) (GB.refl _) ?_
    rw [← hz]; unfold an_take; rw [if_pos (fun z => hk z.1)]
