/-! THE CLASS: about, count -/
theorem nab_pc {n : Nat} {b : sn_Bk} (hb : WB n b) : pcnt (fil b) = nab b := by
  have hm := hb.2.1
  rw [pcnt_ct (fil_lt hb)]
  have e1 : ctf (fun i => (fil b).testBit i) 32 = ctf (fun i => decide (0 < bn b i)) 32 := by
    refine ctf_cong (fun i hi => ?_)
    unfold fil
    rw [show (fun i => if 0 < bn b i then 2 ^ i else 0) = (fun x => if (fun y => decide (0 < bn b y)) x = true then 2 ^ x else 0) from by funext x; simp, orf_bits]
    by_cases e : i < bm b
    · rw [decide_eq_true e, Bool.true_and]
    · have := hb.2.2.2.2.2.2.2.2.1 i (by omega)
      rw [decide_eq_false e, Bool.false_and, this]; rfl
  rw [e1]
  unfold nab
  have aux : ∀ j, bm b + j ≤ 32 → ctf (fun i => decide (0 < bn b i)) (bm b + j) = ctf (fun i => decide (0 < bn b i)) (bm b) := by
    intro j
    induction j with
    | zero => intro _; rfl
    | succ j ih =>
      intro hj
      have := hb.2.2.2.2.2.2.2.2.1 (bm b + j) (by omega)
      rw [← Nat.add_assoc, ctf, ih (by omega), this]
      simp
  have := aux (32 - bm b) (by omega)
  rw [show bm b + (32 - bm b) = 32 by omega] at this
  exact this
theorem p_X_about (d : Nat) {h : sn_H} {μ : sn_S} (q : XR h μ) (kv cv : Int32) : Sp (d + 1) me_X_about [.ref 1, .int kv, .int cv] h (some (.int (an_about μ kv cv))) h := by
  have q0 := q
  obtain ⟨⟨hw, h8, hWB⟩, fl, fb, ad, ru, cw, o⟩ := q
  have hw8 := hw.1
  have hX := o.1
  by_cases hk : rg kv (snb μ)
  · obtain ⟨k, hk1, hk2, rfl⟩ := rg_ex hk
    obtain ⟨hfb, h27, hR⟩ := o.2.2.2.2.2.2.1 k hk1
    have hb := hWB k hk1
    have hB := hR.1.1
    have hm := hb.2.1
    have hci : sn_bk (bk (sbk μ k) + 3) := sn_bk_of hb.1
    refine Sp.of ok_X_about trivial rfl ?_
    refine Ev.go 2 rfl ?_
    refine Ev.cv (E' := me_X_find) rfl mk_X_find lv_0_102_0 rfl hX rfl (e_X_find_y d ⟨hw, h8, hWB⟩ o rfl hk1) ?_
    refine Ev.go 2 rfl ?_
    refine Ev.p rfl rfl trivial ?_
    refine Ev.go 1 rfl ?_
    by_cases hc : rg cv 6
    · obtain ⟨c, hc1, hc2, rfl⟩ := rg_ex hc
      have hc4 : c = 0 ∨ c = 1 ∨ c = 2 ∨ c = 3 ∨ c = 4 ∨ c = 5 := by omega
      rcases hc4 with rfl | rfl | rfl | rfl | rfl | rfl
      · refine Ev.p rfl rfl trivial ?_
        refine Ev.go 1 rfl ?_
        refine Ev.gf rfl (lfb_0_110 (hci)) hB rfl ?_
        exact Ev.reti rfl (by unfold an_about; rw [if_neg (fun z => z hk), if_pos hc, tn_nI hk2, tn_nI hc2]; rfl)
      · refine Ev.p rfl rfl trivial ?_
        refine Ev.go 1 rfl ?_
        refine Ev.gf rfl (lfb_0_113 (hci)) hB rfl ?_
        exact Ev.reti rfl (by unfold an_about; rw [if_neg (fun z => z hk), if_pos hc, tn_nI hk2, tn_nI hc2]; rfl)
      · refine Ev.p rfl rfl trivial ?_
        refine Ev.go 1 rfl ?_
        refine Ev.gf rfl (lfb_0_116 (hci)) hB rfl ?_
        exact Ev.reti rfl (by unfold an_about; rw [if_neg (fun z => z hk), if_pos hc, tn_nI hk2, tn_nI hc2]; rfl)
      · refine Ev.p rfl rfl trivial ?_
        refine Ev.go 1 rfl ?_
        refine Ev.cv (E' := vt_filledPlaces (bk (sbk μ k) + 3)) rfl (mkb_filledPlaces hci) (lvb_0_119 hci) rfl hB rfl (v_filledPlaces d hb hB hR.2.1) ?_
        refine Ev.cs (E' := me_JL_bitCount) rfl mk_JL_bitCount ls_0_123 rfl rfl (e_JL_bitCount d h rfl (fil_lt hb)) ?_
        exact Ev.reti rfl (by unfold an_about; rw [if_neg (fun z => z hk), if_pos hc, tn_nI hk2, tn_nI hc2, nab_pc hb]; rfl)
      · refine Ev.p rfl rfl trivial ?_
        refine Ev.go 1 rfl ?_
        refine Ev.cv (E' := vt_keysReally (bk (sbk μ k) + 3)) rfl (mkb_keysReally hci) (lvb_0_129 hci) rfl hB rfl (v_keysReally d hb hB hR.2.2.1) ?_
        refine Ev.cs (E' := me_JL_bitCount) rfl mk_JL_bitCount ls_0_123 rfl rfl (e_JL_bitCount d h rfl (rin_lt _)) ?_
        exact Ev.reti rfl (by unfold an_about; rw [if_neg (fun z => z hk), if_pos hc, tn_nI hk2, tn_nI hc2]; rfl)
      · refine Ev.p rfl rfl trivial ?_
        refine Ev.go 1 rfl ?_
        refine Ev.cv (E' := vt_rowCount (bk (sbk μ k) + 3)) rfl (mkb_rowCount hci) (lvb_0_132 hci) rfl hB rfl (v_rowCount d hw hb hR) ?_
        exact Ev.reti rfl (by unfold an_about; rw [if_neg (fun z => z hk), if_pos hc, tn_nI hk2, tn_nI hc2]; rfl)
    · refine Ev.swo rfl rfl (by unfold rg at hc; omega) rfl ?_
      refine Ev.go 1 rfl ?_
      exact Ev.reti rfl (by unfold an_about; rw [if_neg (fun z => z hk), if_neg hc])
  · refine Sp.of ok_X_about trivial rfl ?_
    refine Ev.go 2 rfl ?_
    refine Ev.cv (E' := me_X_find) rfl mk_X_find lv_0_102_0 rfl hX rfl (e_X_find_n d q0 hk) ?_
    refine Ev.go 2 rfl ?_
    refine Ev.p rfl rfl trivial ?_
    refine Ev.go 1 rfl ?_
    exact Ev.reti rfl (by unfold an_about; rw [if_pos hk])
