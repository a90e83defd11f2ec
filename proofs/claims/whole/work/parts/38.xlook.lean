/-! THE CLASS: its calls that only look -/
theorem e_X_isLaw (d : Nat) {h : sn_H} {μ : sn_S} (q : XR h μ) (x : Int32) : Sp d me_X_isLaw [.ref 1, .int x] h (some (.int (b2i (decide (rg x (sw μ).1))))) h := by
  obtain ⟨⟨hw, h8, hWB⟩, fl, fb, ad, ru, cw, o⟩ := q
  have hw8 := hw.1
  have hX := o.1
  refine Sp.of ok_X_isLaw (b2i_rc _) rfl ?_
  refine Ev.go 1 rfl ?_
  refine Ev.br rfl rfl (fun c1 => ?_) (fun c1 => ?_)
  · refine Ev.go 1 rfl ?_
    exact Ev.reti rfl (by first | exact b2i_dt (by rw [lt0] at c1;  unfold rg; omega) | exact b2i_df (by rw [lt0] at c1;  unfold rg; omega))
  refine Ev.go 2 rfl ?_
  refine Ev.gf rfl lf_0_15_0 hX rfl ?_
  refine Ev.br rfl rfl (fun c9 => ?_) (fun c9 => ?_)
  · refine Ev.go 1 rfl ?_
    exact Ev.reti rfl (by first | exact b2i_dt (by rw [lt0] at c1; rw [len_ x (by omega)] at c9; unfold rg; omega) | exact b2i_df (by rw [lt0] at c1; rw [len_ x (by omega)] at c9; unfold rg; omega))
  refine Ev.go 2 rfl ?_
  exact Ev.reti rfl (by first | exact b2i_dt (by rw [lt0] at c1; rw [len_ x (by omega)] at c9; unfold rg; omega) | exact b2i_df (by rw [lt0] at c1; rw [len_ x (by omega)] at c9; unfold rg; omega))
theorem e_X_find_n (d : Nat) {h : sn_H} {μ : sn_S} (q : XR h μ) {x : Int32} (hx : ¬ rg x (snb μ)) : Sp d me_X_find [.ref 1, .int x] h (some .null) h := by
  obtain ⟨⟨hw, h8, hWB⟩, fl, fb, ad, ru, cw, o⟩ := q
  have hw8 := hw.1
  have hX := o.1
  refine Sp.of ok_X_find trivial rfl ?_
  refine Ev.go 1 rfl ?_
  refine Ev.br rfl rfl (fun c1 => ?_) (fun c1 => ?_)
  · refine Ev.go 1 rfl ?_
    exact Ev.retn rfl
  refine Ev.go 2 rfl ?_
  refine Ev.gf rfl lf_0_25_0 hX rfl ?_
  refine Ev.br rfl rfl (fun c9 => ?_) (fun c9 => ?_)
  · refine Ev.go 1 rfl ?_
    exact Ev.retn rfl
  exact absurd (show rg x (snb μ) by rw [lt0] at c1; rw [len_ x (by omega)] at c9; unfold rg; omega) hx
theorem e_X_find_y (d : Nat) {h : sn_H} {μ : sn_S} (ws : WS μ) {fl fb : Nat → Option Nat} {ad ru : Nat → Nat} {cv : Value} (o : XO h μ fl fb ad ru cv) {x : Int32} {k : Nat} (e : x = nI k) (hk : k < snb μ) : Sp d me_X_find [.ref 1, .int x] h (some (.ref (ad k))) h := by
  subst e
  have h8 := ws.2.1
  have hX := o.1
  have hF := o.2.2.1
  have hbk := (o.2.2.2.2.2.2.1 k hk).1
  refine Sp.of ok_X_find trivial rfl ?_
  refine Ev.go 1 rfl ?_
  refine Ev.bf rfl rfl (nI_ge0 (by omega)) ?_
  refine Ev.go 2 rfl ?_
  refine Ev.gf rfl lf_0_25_0 hX rfl ?_
  refine Ev.ige rfl rfl rfl (by omega) (by omega) (fun c9 => ?_) (fun c9 => ?_)
  · exact absurd c9 (by omega)
  refine Ev.go 1 rfl ?_
  refine Ev.gf rfl lf_0_21_0 hX rfl ?_
  refine Ev.go 1 rfl ?_
  refine Ev.aln rfl (Or.inr rfl) hF rfl (by omega) (by omega) hbk ?_
  refine Ev.go 1 rfl ?_
  exact Ev.reta rfl (rfl)
theorem p_X_value (d : Nat) {h : sn_H} {μ : sn_S} (q : XR h μ) (l y : Int32) : Sp (d + 1) me_X_value [.ref 1, .int l, .int y] h (some (.int (an_value μ l y))) h := by
  have q0 := q
  obtain ⟨⟨hw, h8, hWB⟩, fl, fb, ad, ru, cw, o⟩ := q
  have hw8 := hw.1
  have hX := o.1
  refine Sp.of ok_X_value trivial rfl ?_
  refine Ev.go 2 rfl ?_
  refine Ev.cv (E' := me_X_isLaw) rfl mk_X_isLaw lv_0_39_0 rfl hX rfl (e_X_isLaw d q0 _) ?_
  refine Ev.zb rfl rfl (fun c5 => ?_) (fun c5 => ?_)
  · refine Ev.go 1 rfl ?_
    exact Ev.reti rfl (by unfold an_value; rw [if_neg (fun z => ofn c5 z.1)])
  refine Ev.go 1 rfl ?_
  refine Ev.cs (E' := me_X_isKey) rfl mk_X_isKey ls_0_43 rfl rfl (e_X_isKey d _ _) ?_
  refine Ev.zn rfl rfl (fun c12 => ?_) (fun c12 => ?_)
  · obtain ⟨l, hl, hl2, rfl⟩ := rg_ex (ofd c5)
    obtain ⟨y, hy, hy2, rfl⟩ := rg_ex (ofd c12)
    obtain ⟨la, hla, hLa⟩ := o.2.2.2.2.2.1 l hl
    refine Ev.go 1 rfl ?_
    refine Ev.gf rfl lf_0_11_0 hX rfl ?_
    refine Ev.go 1 rfl ?_
    refine Ev.aln rfl (Or.inl rfl) o.2.1 rfl (by omega) (by omega) hla ?_
    refine Ev.go 1 rfl ?_
    refine Ev.cv (E' := me_W_valueFor) rfl mk_W_valueFor lv_0_46_2 rfl hLa rfl (e_W_valueFor d hLa rfl (hw.2 l hl).2.1 (hw.2 l hl).2.2 hy) ?_
    exact Ev.reti rfl (by unfold an_value; rw [if_pos ⟨ofd c5, ofd c12⟩, tn_nI hl2, tn_nI hy2])
  refine Ev.go 1 rfl ?_
  exact Ev.reti rfl (by unfold an_value; rw [if_neg (fun z => ofn c12 z.2)])
section SW
variable {Ω : sn_O} {d : Nat} {E : sn_E} {pc : Nat} {lv rest st : List Value} {h h' : sn_H} {r : Option Value} {len nx tg : Nat}
theorem Ev.swo {dflt lo up : Int} {offs : Array Int} {x : Int32} {p2 : Nat} (hi : sn_tg E.2.1 pc = some (.tableswitch dflt lo up offs, len, nx, tg)) (ok : sn_swok pc dflt lo up offs = true) (hx : x.toInt < lo ∨ up < x.toInt) (hp : ((pc : Int) + dflt).toNat = p2) (K : Ev Ω d E p2 lv rest h r h') : Ev Ω d E pc lv (.int x :: rest) h r h' := by
  refine Ev.p hi (pc' := sn_sw pc dflt lo up offs x) (φ := True) (lv' := lv) (st' := rest) ?_ trivial ?_
  · simp only [sn_ps, ok, cond_true]
  · unfold sn_sw; rw [if_pos hx, hp]; exact K
end SW
theorem p_X_at (d : Nat) {h : sn_H} {μ : sn_S} (q : XR h μ) (kv iv : Int32) : Sp (d + 1) me_X_at [.ref 1, .int kv, .int iv] h (some (.int (an_at μ kv iv))) h := by
  have q0 := q
  obtain ⟨⟨hw, h8, hWB⟩, fl, fb, ad, ru, cw, o⟩ := q
  have hw8 := hw.1
  have hX := o.1
  by_cases hk : rg kv (snb μ)
  · obtain ⟨k, hk1, hk2, rfl⟩ := rg_ex hk
    obtain ⟨hfb, h27, hR⟩ := o.2.2.2.2.2.2.1 k hk1
    have hb := hWB k hk1
    have hB := hR.1.1
    have hm := hb.2.1
    have hci : sn_bk (bk (sbk μ k) + 3) := sn_bk_of hb.1
    obtain ⟨f, hf, hfn⟩ := hR.2.1
    refine Sp.of ok_X_at trivial rfl ?_
    refine Ev.go 2 rfl ?_
    refine Ev.cv (E' := me_X_find) rfl mk_X_find lv_0_102_0 rfl hX rfl (e_X_find_y d ⟨hw, h8, hWB⟩ o rfl hk1) ?_
    refine Ev.go 2 rfl ?_
    refine Ev.p rfl rfl trivial ?_
    refine Ev.go 1 rfl ?_
    refine Ev.br rfl rfl (fun c11 => ?_) (fun c11 => ?_)
    · refine Ev.go 1 rfl ?_
      exact Ev.reti rfl (by unfold an_at; rw [tn_nI hk2, if_neg (fun z => by have z2 := z.2; rw [lt0] at c11; unfold rg at z2; omega)])
    refine Ev.go 2 rfl ?_
    refine Ev.gf rfl (lfb_0_113 (hci)) hB rfl ?_
    refine Ev.br rfl rfl (fun c19 => ?_) (fun c19 => ?_)
    · rw [lt0] at c11
      rw [ltn _ (by omega)] at c19
      have hi : rg iv (bm (sbk μ k)) := by unfold rg; omega
      obtain ⟨i, hi1, hi2, rfl⟩ := rg_ex hi
      refine Ev.go 1 rfl ?_
      refine Ev.gf rfl (lfb_0_136 (hci)) hB rfl ?_
      refine Ev.go 1 rfl ?_
      refine Ev.iln rfl hf rfl (by omega) (by omega) ?_
      rw [hfn i (by omega)]
      exact Ev.reti rfl (by unfold an_at; rw [tn_nI hk2, if_pos ⟨hk, hi⟩, tn_nI hi2])
    refine Ev.go 1 rfl ?_
    exact Ev.reti rfl (by unfold an_at; rw [tn_nI hk2, if_neg (fun z => by have z2 := z.2; rw [ltn _ (by omega)] at c19; unfold rg at z2; omega)])
  · refine Sp.of ok_X_at trivial rfl ?_
    refine Ev.go 2 rfl ?_
    refine Ev.cv (E' := me_X_find) rfl mk_X_find lv_0_102_0 rfl hX rfl (e_X_find_n d q0 hk) ?_
    refine Ev.go 2 rfl ?_
    refine Ev.p rfl rfl trivial ?_
    refine Ev.go 1 rfl ?_
    exact Ev.reti rfl (by unfold an_at; rw [if_neg (fun z => hk z.1)])
theorem p_X_real (d : Nat) {h : sn_H} {μ : sn_S} (q : XR h μ) (kv yv : Int32) : Sp (d + 1) me_X_real [.ref 1, .int kv, .int yv] h (some (.int (an_real μ kv yv))) h := by
  have q0 := q
  obtain ⟨⟨hw, h8, hWB⟩, fl, fb, ad, ru, cw, o⟩ := q
  have hw8 := hw.1
  have hX := o.1
  by_cases hk : rg kv (snb μ)
  · obtain ⟨k, hk1, hk2, rfl⟩ := rg_ex hk
    obtain ⟨hfb, h27, hR⟩ := o.2.2.2.2.2.2.1 k hk1
    have hb := hWB k hk1
    have hB := hR.1.1
    have hm := hb.2.1
    have hci : sn_bk (bk (sbk μ k) + 3) := sn_bk_of hb.1
    obtain ⟨f, hf, hfn⟩ := hR.2.2.1
    refine Sp.of ok_X_real trivial rfl ?_
    refine Ev.go 2 rfl ?_
    refine Ev.cv (E' := me_X_find) rfl mk_X_find lv_0_102_0 rfl hX rfl (e_X_find_y d ⟨hw, h8, hWB⟩ o rfl hk1) ?_
    refine Ev.go 2 rfl ?_
    refine Ev.p rfl rfl trivial ?_
    refine Ev.go 1 rfl ?_
    refine Ev.cs (E' := me_X_isKey) rfl mk_X_isKey ls_0_43 rfl rfl (e_X_isKey d _ _) ?_
    refine Ev.zn rfl rfl (fun c14 => ?_) (fun c14 => ?_)
    · obtain ⟨y, hy, hy2, rfl⟩ := rg_ex (ofd c14)
      refine Ev.go 1 rfl ?_
      refine Ev.gf rfl (lfb_0_153 (hci)) hB rfl ?_
      refine Ev.go 1 rfl ?_
      refine Ev.iln rfl hf rfl (by omega) (by omega) ?_
      rw [hfn y (by omega)]
      exact Ev.reti rfl (by unfold an_real; rw [if_pos ⟨hk, ofd c14⟩, tn_nI hk2, tn_nI hy2])
    refine Ev.go 1 rfl ?_
    exact Ev.reti rfl (by unfold an_real; rw [if_neg (fun z => ofn c14 z.2)])
  · refine Sp.of ok_X_real trivial rfl ?_
    refine Ev.go 2 rfl ?_
    refine Ev.cv (E' := me_X_find) rfl mk_X_find lv_0_102_0 rfl hX rfl (e_X_find_n d q0 hk) ?_
    refine Ev.go 2 rfl ?_
    refine Ev.p rfl rfl trivial ?_
    refine Ev.go 1 rfl ?_
    exact Ev.reti rfl (by unfold an_real; rw [if_neg (fun z => hk z.1)])
theorem p_X_places (d : Nat) {h : sn_H} {μ : sn_S} (q : XR h μ) (kv yv : Int32) : Sp (d + 3) me_X_places [.ref 1, .int kv, .int yv] h (some (.long (an_places μ kv yv))) h := by
  have q0 := q
  obtain ⟨⟨hw, h8, hWB⟩, fl, fb, ad, ru, cw, o⟩ := q
  have hw8 := hw.1
  have hX := o.1
  by_cases hk : rg kv (snb μ)
  · obtain ⟨k, hk1, hk2, rfl⟩ := rg_ex hk
    obtain ⟨hfb, h27, hR⟩ := o.2.2.2.2.2.2.1 k hk1
    have hb := hWB k hk1
    have hB := hR.1.1
    have hm := hb.2.1
    have hci : sn_bk (bk (sbk μ k) + 3) := sn_bk_of hb.1
    refine Sp.of ok_X_places trivial rfl ?_
    refine Ev.go 2 rfl ?_
    refine Ev.cv (E' := me_X_find) rfl mk_X_find lv_0_102_0 rfl hX rfl (e_X_find_y (d + 2) ⟨hw, h8, hWB⟩ o rfl hk1) ?_
    refine Ev.go 2 rfl ?_
    refine Ev.p rfl rfl trivial ?_
    refine Ev.go 1 rfl ?_
    refine Ev.cs (E' := me_X_isKey) rfl mk_X_isKey ls_0_43 rfl rfl (e_X_isKey (d + 2) _ _) ?_
    refine Ev.zn rfl rfl (fun c14 => ?_) (fun c14 => ?_)
    · obtain ⟨y, hy, hy2, rfl⟩ := rg_ex (ofd c14)
      refine Ev.go 2 rfl ?_
      refine Ev.cv (E' := vt_placeBits (bk (sbk μ k) + 3)) rfl (mkb_placeBits hci) (lvb_0_146 hci) rfl hB rfl (v_placeBits d hw hb hR.1 rfl hy) ?_
      exact Ev.retl rfl (by unfold an_places; rw [if_pos ⟨hk, ofd c14⟩, tn_nI hk2, tn_nI hy2])
    refine Ev.go 1 rfl ?_
    exact Ev.retl rfl (by unfold an_places; rw [if_neg (fun z => ofn c14 z.2)])
  · refine Sp.of ok_X_places trivial rfl ?_
    refine Ev.go 2 rfl ?_
    refine Ev.cv (E' := me_X_find) rfl mk_X_find lv_0_102_0 rfl hX rfl (e_X_find_n (d + 2) q0 hk) ?_
    refine Ev.go 2 rfl ?_
    refine Ev.p rfl rfl trivial ?_
    refine Ev.go 1 rfl ?_
    exact Ev.retl rfl (by unfold an_places; rw [if_neg (fun z => hk z.1)])
theorem p_X_row (d : Nat) {h : sn_H} {μ : sn_S} (q : XR h μ) (kv iv : Int32) : Sp (d + 1) me_X_row [.ref 1, .int kv, .int iv] h (some (.long (an_row μ kv iv))) h := by
  have q0 := q
  obtain ⟨⟨hw, h8, hWB⟩, fl, fb, ad, ru, cw, o⟩ := q
  have hw8 := hw.1
  have hX := o.1
  by_cases hk : rg kv (snb μ)
  · obtain ⟨k, hk1, hk2, rfl⟩ := rg_ex hk
    obtain ⟨hfb, h27, hR⟩ := o.2.2.2.2.2.2.1 k hk1
    have hb := hWB k hk1
    have hB := hR.1.1
    have hm := hb.2.1
    have hci : sn_bk (bk (sbk μ k) + 3) := sn_bk_of hb.1
    have hbc := hb.2.2.2.2.2.2.2.2.2.2.1
    refine Sp.of ok_X_row trivial rfl ?_
    refine Ev.go 2 rfl ?_
    refine Ev.cv (E' := me_X_find) rfl mk_X_find lv_0_102_0 rfl hX rfl (e_X_find_y d ⟨hw, h8, hWB⟩ o rfl hk1) ?_
    refine Ev.go 2 rfl ?_
    refine Ev.p rfl rfl trivial ?_
    refine Ev.go 1 rfl ?_
    refine Ev.br rfl rfl (fun c11 => ?_) (fun c11 => ?_)
    · refine Ev.go 1 rfl ?_
      exact Ev.retl rfl (by unfold an_row; rw [tn_nI hk2, if_neg (fun z => by have z2 := z.2; rw [lt0] at c11; unfold rg at z2; omega)])
    refine Ev.go 2 rfl ?_
    refine Ev.cv (E' := vt_rowCount (bk (sbk μ k) + 3)) rfl (mkb_rowCount hci) (lvb_0_132 hci) rfl hB rfl (v_rowCount d hw hb hR) ?_
    refine Ev.br rfl rfl (fun c19 => ?_) (fun c19 => ?_)
    · rw [lt0] at c11
      rw [ltn _ (by omega)] at c19
      have hi : rg iv (bc (sbk μ k)) := by unfold rg; omega
      obtain ⟨i, hi1, hi2, rfl⟩ := rg_ex hi
      refine Ev.go 2 rfl ?_
      refine Ev.cv (E' := vt_rowBits (bk (sbk μ k) + 3)) rfl (mkb_rowBits hci) (lvb_0_142 hci) rfl hB rfl (v_rowBits d hw hb hR rfl hi1) ?_
      exact Ev.retl rfl (by unfold an_row; rw [tn_nI hk2, if_pos ⟨hk, hi⟩, tn_nI hi2])
    refine Ev.go 1 rfl ?_
    exact Ev.retl rfl (by unfold an_row; rw [tn_nI hk2, if_neg (fun z => by have z2 := z.2; rw [ltn _ (by omega)] at c19; unfold rg at z2; omega)])
  · refine Sp.of ok_X_row trivial rfl ?_
    refine Ev.go 2 rfl ?_
    refine Ev.cv (E' := me_X_find) rfl mk_X_find lv_0_102_0 rfl hX rfl (e_X_find_n d q0 hk) ?_
    refine Ev.go 2 rfl ?_
    refine Ev.p rfl rfl trivial ?_
    refine Ev.go 1 rfl ?_
    exact Ev.retl rfl (by unfold an_row; rw [if_neg (fun z => hk z.1)])
theorem p_X_keys (d : Nat) {h : sn_H} {μ : sn_S} (q : XR h μ) (kv cv : Int32) : Sp (d + 5) me_X_keys [.ref 1, .int kv, .int cv] h (some (.long (an_keys μ kv cv))) h := by
  have q0 := q
  obtain ⟨⟨hw, h8, hWB⟩, fl, fb, ad, ru, cw, o⟩ := q
  have hw8 := hw.1
  have hX := o.1
  by_cases hk : rg kv (snb μ)
  · obtain ⟨k, hk1, hk2, rfl⟩ := rg_ex hk
    obtain ⟨hfb, h27, hR⟩ := o.2.2.2.2.2.2.1 k hk1
    have hb := hWB k hk1
    have hB := hR.1.1
    have hm := hb.2.1
    have hci : sn_bk (bk (sbk μ k) + 3) := sn_bk_of hb.1
    refine Sp.of ok_X_keys trivial rfl ?_
    refine Ev.go 2 rfl ?_
    refine Ev.cv (E' := me_X_find) rfl mk_X_find lv_0_102_0 rfl hX rfl (e_X_find_y (d + 4) ⟨hw, h8, hWB⟩ o rfl hk1) ?_
    refine Ev.go 2 rfl ?_
    refine Ev.p rfl rfl trivial ?_
    refine Ev.go 1 rfl ?_
    by_cases hc : rg cv 4
    · obtain ⟨c, hc1, hc2, rfl⟩ := rg_ex hc
      have hc4 : c = 0 ∨ c = 1 ∨ c = 2 ∨ c = 3 := by omega
      rcases hc4 with rfl | rfl | rfl | rfl
      · refine Ev.p rfl rfl trivial ?_
        refine Ev.go 1 rfl ?_
        refine Ev.cv (E' := vt_keysHeld (bk (sbk μ k) + 3)) rfl (mkb_keysHeld hci) (lvb_0_173 hci) rfl hB rfl (v_keysHeld d hw hb hR) ?_
        exact Ev.retl rfl (by unfold an_keys; rw [if_neg (fun z => z hk), if_pos hc, tn_nI hk2, tn_nI hc2]; rfl)
      · refine Ev.p rfl rfl trivial ?_
        refine Ev.go 1 rfl ?_
        refine Ev.cv (E' := vt_keysHeld (bk (sbk μ k) + 3)) rfl (mkb_keysHeld hci) (lvb_0_173 hci) rfl hB rfl (v_keysHeld d hw hb hR) ?_
        refine Ev.go 1 rfl ?_
        refine Ev.cv (E' := vt_keysReally (bk (sbk μ k) + 3)) rfl (mkb_keysReally hci) (lvb_0_129 hci) rfl hB rfl (v_keysReally (d + 4) hb hB hR.2.2.1) ?_
        refine Ev.go 3 rfl ?_
        exact Ev.retl rfl (by unfold an_keys; rw [if_neg (fun z => z hk), if_pos hc, tn_nI hk2, tn_nI hc2, lN_andn]; rfl)
      · refine Ev.p rfl rfl trivial ?_
        refine Ev.go 1 rfl ?_
        refine Ev.cv (E' := vt_keysReally (bk (sbk μ k) + 3)) rfl (mkb_keysReally hci) (lvb_0_129 hci) rfl hB rfl (v_keysReally (d + 4) hb hB hR.2.2.1) ?_
        refine Ev.go 1 rfl ?_
        refine Ev.cv (E' := vt_keysHeld (bk (sbk μ k) + 3)) rfl (mkb_keysHeld hci) (lvb_0_173 hci) rfl hB rfl (v_keysHeld d hw hb hR) ?_
        refine Ev.go 3 rfl ?_
        exact Ev.retl rfl (by unfold an_keys; rw [if_neg (fun z => z hk), if_pos hc, tn_nI hk2, tn_nI hc2, lN_andn]; rfl)
      · refine Ev.p rfl rfl trivial ?_
        refine Ev.go 1 rfl ?_
        refine Ev.cv (E' := vt_keysReally (bk (sbk μ k) + 3)) rfl (mkb_keysReally hci) (lvb_0_129 hci) rfl hB rfl (v_keysReally (d + 4) hb hB hR.2.2.1) ?_
        exact Ev.retl rfl (by unfold an_keys; rw [if_neg (fun z => z hk), if_pos hc, tn_nI hk2, tn_nI hc2]; rfl)
    · refine Ev.swo rfl rfl (by unfold rg at hc; omega) rfl ?_
      refine Ev.go 1 rfl ?_
      exact Ev.retl rfl (by unfold an_keys; rw [if_neg (fun z => z hk), if_neg hc])
  · refine Sp.of ok_X_keys trivial rfl ?_
    refine Ev.go 2 rfl ?_
    refine Ev.cv (E' := me_X_find) rfl mk_X_find lv_0_102_0 rfl hX rfl (e_X_find_n (d + 4) q0 hk) ?_
    refine Ev.go 2 rfl ?_
    refine Ev.p rfl rfl trivial ?_
    refine Ev.go 1 rfl ?_
    exact Ev.retl rfl (by unfold an_keys; rw [if_pos hk])
theorem e_X_isOfKind (d : Nat) {h : sn_H} {b : sn_Bk} {ad nl c : Nat} {fs : List Value} (hb : WB nl b) (hB : h[ad]? = some (.inr (bk b + 3, fs))) {x : Int32} (e : x = nI c) (hc : c < 6) : Sp d me_X_isOfKind [.ref ad, .int x] h (some (.int (b2i (decide (bk b = c ∨ (c = 0 ∧ bk b ≠ 3) ∨ (c = 2 ∧ bk b = 4)))))) h := by
  subst e
  have h5 : bk b = 0 ∨ bk b = 1 ∨ bk b = 2 ∨ bk b = 3 ∨ bk b = 4 ∨ bk b = 5 := by have := hb.1; omega
  have hc4 : c = 0 ∨ c = 1 ∨ c = 2 ∨ c = 3 ∨ c = 4 ∨ c = 5 := by omega
  refine Sp.of ok_X_isOfKind (b2i_rc _) rfl ?_
  refine Ev.go 1 rfl ?_
  rcases hc4 with rfl | rfl | rfl | rfl | rfl | rfl
  · refine Ev.p rfl rfl trivial ?_
    refine Ev.go 1 rfl ?_
    rcases h5 with e | e | e | e | e | e
    · rw [e] at hB
      refine Ev.iy rfl ly_0_267_3 hB ?_
      exact Ev.reti rfl (by rw [decide_eq_true (by rw [e]; decide)]; rfl)
    · rw [e] at hB
      refine Ev.iy rfl ly_0_267_4 hB ?_
      exact Ev.reti rfl (by rw [decide_eq_true (by rw [e]; decide)]; rfl)
    · rw [e] at hB
      refine Ev.iy rfl ly_0_267_5 hB ?_
      exact Ev.reti rfl (by rw [decide_eq_true (by rw [e]; decide)]; rfl)
    · rw [e] at hB
      refine Ev.in rfl ln_0_267_6 hB ?_
      exact Ev.reti rfl (by rw [decide_eq_false (by rw [e]; decide)]; rfl)
    · rw [e] at hB
      refine Ev.iy rfl ly_0_267_7 hB ?_
      exact Ev.reti rfl (by rw [decide_eq_true (by rw [e]; decide)]; rfl)
    · rw [e] at hB
      refine Ev.iy rfl ly_0_267_8 hB ?_
      exact Ev.reti rfl (by rw [decide_eq_true (by rw [e]; decide)]; rfl)
  · refine Ev.p rfl rfl trivial ?_
    refine Ev.go 1 rfl ?_
    rcases h5 with e | e | e | e | e | e
    · rw [e] at hB
      refine Ev.in rfl ln_0_269_3 hB ?_
      exact Ev.reti rfl (by rw [decide_eq_false (by rw [e]; decide)]; rfl)
    · rw [e] at hB
      refine Ev.iy rfl ly_0_269_4 hB ?_
      exact Ev.reti rfl (by rw [decide_eq_true (by rw [e]; decide)]; rfl)
    · rw [e] at hB
      refine Ev.in rfl ln_0_269_5 hB ?_
      exact Ev.reti rfl (by rw [decide_eq_false (by rw [e]; decide)]; rfl)
    · rw [e] at hB
      refine Ev.in rfl ln_0_269_6 hB ?_
      exact Ev.reti rfl (by rw [decide_eq_false (by rw [e]; decide)]; rfl)
    · rw [e] at hB
      refine Ev.in rfl ln_0_269_7 hB ?_
      exact Ev.reti rfl (by rw [decide_eq_false (by rw [e]; decide)]; rfl)
    · rw [e] at hB
      refine Ev.in rfl ln_0_269_8 hB ?_
      exact Ev.reti rfl (by rw [decide_eq_false (by rw [e]; decide)]; rfl)
  · refine Ev.p rfl rfl trivial ?_
    refine Ev.go 1 rfl ?_
    rcases h5 with e | e | e | e | e | e
    · rw [e] at hB
      refine Ev.in rfl ln_0_271_3 hB ?_
      exact Ev.reti rfl (by rw [decide_eq_false (by rw [e]; decide)]; rfl)
    · rw [e] at hB
      refine Ev.in rfl ln_0_271_4 hB ?_
      exact Ev.reti rfl (by rw [decide_eq_false (by rw [e]; decide)]; rfl)
    · rw [e] at hB
      refine Ev.iy rfl ly_0_271_5 hB ?_
      exact Ev.reti rfl (by rw [decide_eq_true (by rw [e]; decide)]; rfl)
    · rw [e] at hB
      refine Ev.in rfl ln_0_271_6 hB ?_
      exact Ev.reti rfl (by rw [decide_eq_false (by rw [e]; decide)]; rfl)
    · rw [e] at hB
      refine Ev.iy rfl ly_0_271_7 hB ?_
      exact Ev.reti rfl (by rw [decide_eq_true (by rw [e]; decide)]; rfl)
    · rw [e] at hB
      refine Ev.in rfl ln_0_271_8 hB ?_
      exact Ev.reti rfl (by rw [decide_eq_false (by rw [e]; decide)]; rfl)
  · refine Ev.p rfl rfl trivial ?_
    refine Ev.go 1 rfl ?_
    rcases h5 with e | e | e | e | e | e
    · rw [e] at hB
      refine Ev.in rfl ln_0_234_3 hB ?_
      exact Ev.reti rfl (by rw [decide_eq_false (by rw [e]; decide)]; rfl)
    · rw [e] at hB
      refine Ev.in rfl ln_0_234_4 hB ?_
      exact Ev.reti rfl (by rw [decide_eq_false (by rw [e]; decide)]; rfl)
    · rw [e] at hB
      refine Ev.in rfl ln_0_234_5 hB ?_
      exact Ev.reti rfl (by rw [decide_eq_false (by rw [e]; decide)]; rfl)
    · rw [e] at hB
      refine Ev.iy rfl ly_0_234_6 hB ?_
      exact Ev.reti rfl (by rw [decide_eq_true (by rw [e]; decide)]; rfl)
    · rw [e] at hB
      refine Ev.in rfl ln_0_234_7 hB ?_
      exact Ev.reti rfl (by rw [decide_eq_false (by rw [e]; decide)]; rfl)
    · rw [e] at hB
      refine Ev.in rfl ln_0_234_8 hB ?_
      exact Ev.reti rfl (by rw [decide_eq_false (by rw [e]; decide)]; rfl)
  · refine Ev.p rfl rfl trivial ?_
    refine Ev.go 1 rfl ?_
    rcases h5 with e | e | e | e | e | e
    · rw [e] at hB
      refine Ev.in rfl ln_0_273_3 hB ?_
      exact Ev.reti rfl (by rw [decide_eq_false (by rw [e]; decide)]; rfl)
    · rw [e] at hB
      refine Ev.in rfl ln_0_273_4 hB ?_
      exact Ev.reti rfl (by rw [decide_eq_false (by rw [e]; decide)]; rfl)
    · rw [e] at hB
      refine Ev.in rfl ln_0_273_5 hB ?_
      exact Ev.reti rfl (by rw [decide_eq_false (by rw [e]; decide)]; rfl)
    · rw [e] at hB
      refine Ev.in rfl ln_0_273_6 hB ?_
      exact Ev.reti rfl (by rw [decide_eq_false (by rw [e]; decide)]; rfl)
    · rw [e] at hB
      refine Ev.iy rfl ly_0_273_7 hB ?_
      exact Ev.reti rfl (by rw [decide_eq_true (by rw [e]; decide)]; rfl)
    · rw [e] at hB
      refine Ev.in rfl ln_0_273_8 hB ?_
      exact Ev.reti rfl (by rw [decide_eq_false (by rw [e]; decide)]; rfl)
  · refine Ev.swo rfl rfl (by decide) rfl ?_
    refine Ev.go 1 rfl ?_
    rcases h5 with e | e | e | e | e | e
    · rw [e] at hB
      refine Ev.in rfl ln_0_275_3 hB ?_
      exact Ev.reti rfl (by rw [decide_eq_false (by rw [e]; decide)]; rfl)
    · rw [e] at hB
      refine Ev.in rfl ln_0_275_4 hB ?_
      exact Ev.reti rfl (by rw [decide_eq_false (by rw [e]; decide)]; rfl)
    · rw [e] at hB
      refine Ev.in rfl ln_0_275_5 hB ?_
      exact Ev.reti rfl (by rw [decide_eq_false (by rw [e]; decide)]; rfl)
    · rw [e] at hB
      refine Ev.in rfl ln_0_275_6 hB ?_
      exact Ev.reti rfl (by rw [decide_eq_false (by rw [e]; decide)]; rfl)
    · rw [e] at hB
      refine Ev.in rfl ln_0_275_7 hB ?_
      exact Ev.reti rfl (by rw [decide_eq_false (by rw [e]; decide)]; rfl)
    · rw [e] at hB
      refine Ev.iy rfl ly_0_275_8 hB ?_
      exact Ev.reti rfl (by rw [decide_eq_true (by rw [e]; decide)]; rfl)
theorem p_X_as (d : Nat) {h : sn_H} {μ : sn_S} (q : XR h μ) (kv cv : Int32) : Sp (d + 1) me_X_as [.ref 1, .int kv, .int cv] h (some (.int (an_as μ kv cv))) h := by
  have q0 := q
  obtain ⟨⟨hw, h8, hWB⟩, fl, fb, ad, ru, cw, o⟩ := q
  have hw8 := hw.1
  have hX := o.1
  by_cases hk : rg kv (snb μ)
  · obtain ⟨k, hk1, hk2, rfl⟩ := rg_ex hk
    obtain ⟨hfb, h27, hR⟩ := o.2.2.2.2.2.2.1 k hk1
    have hb := hWB k hk1
    have hB := hR.1.1
    have hm := hb.2.1
    have hci : sn_bk (bk (sbk μ k) + 3) := sn_bk_of hb.1
    refine Sp.of ok_X_as trivial rfl ?_
    refine Ev.go 2 rfl ?_
    refine Ev.cv (E' := me_X_find) rfl mk_X_find lv_0_102_0 rfl hX rfl (e_X_find_y d ⟨hw, h8, hWB⟩ o rfl hk1) ?_
    refine Ev.go 2 rfl ?_
    refine Ev.p rfl rfl trivial ?_
    refine Ev.go 1 rfl ?_
    refine Ev.cs (E' := me_X_isKind) rfl mk_X_isKind ls_0_83 rfl rfl (e_X_isKind d _ _) ?_
    refine Ev.zn rfl rfl (fun c17 => ?_) (fun c17 => ?_)
    · obtain ⟨c, hc, hc2, rfl⟩ := rg_ex (ofd c17)
      refine Ev.go 2 rfl ?_
      refine Ev.cs (E' := me_X_isOfKind) rfl mk_X_isOfKind ls_0_106 rfl rfl (e_X_isOfKind d hb hB rfl hc) ?_
      refine Ev.zb rfl rfl (fun c28 => ?_) (fun c28 => ?_)
      · refine Ev.go 1 rfl ?_
        exact Ev.reti rfl (by unfold an_as; rw [if_neg (fun z => z hk), if_neg (fun z => z (ofd c17)), tn_nI hk2, tn_nI hc2, if_neg (ofn c28)])
      refine Ev.go 2 rfl ?_
      exact Ev.reti rfl (by unfold an_as; rw [if_neg (fun z => z hk), if_neg (fun z => z (ofd c17)), tn_nI hk2, tn_nI hc2, if_pos (ofd c28)])
    refine Ev.go 1 rfl ?_
    exact Ev.reti rfl (by unfold an_as; rw [if_neg (fun z => z hk), if_pos (ofn c17)])
  · refine Sp.of ok_X_as trivial rfl ?_
    refine Ev.go 2 rfl ?_
    refine Ev.cv (E' := me_X_find) rfl mk_X_find lv_0_102_0 rfl hX rfl (e_X_find_n d q0 hk) ?_
    refine Ev.go 2 rfl ?_
    refine Ev.p rfl rfl trivial ?_
    refine Ev.go 1 rfl ?_
    exact Ev.reti rfl (by unfold an_as; rw [if_pos hk])
