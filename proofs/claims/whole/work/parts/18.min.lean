/-! THE REFERENCE: who is in -/
theorem e_M_isIn (d : Nat) (x : sn_X5) {A : sn_A2} {B : sn_B2} (t : sn_H) {w : sn_Lw} {k : Nat} {b : sn_Bk} (q : MK A B w k b) {kv xv : Int32} {y : Nat} (e1 : kv = nI k) (e2 : xv = nI y) (hy : y < 32) : Sp (d + 3) me_M_isIn [.ref 5, .int kv, .int xv] (hp x A B t) (some (.int (b2i (isin w b y)))) (hp x A B t) := by
  obtain ⟨hw, hL, hb, hB, hk⟩ := q
  obtain ⟨r8, r9, r10, r11, r12, r13, r14⟩ := id hB
  have hm := hb.2.1
  have hpc := hb.2.2.2.2.1
  have hbl := hb.bl256 hw.1
  subst e1
  subst e2
  have h3 := hb.2.2.2.2.2.1
  have h4 := hb.2.2.2.2.2.2.1
  have h7 := hb.2.2.2.2.2.2.2.1
  have hbk := hb.1
  have hf := frs_lt (w := w) hb y
  have hmk := mrk_le (w := w) (b := b) 1 y
  have hmk0 := mrk_le (w := w) (b := b) 0 y
  have ho := oth_lt (frs w b y) (mrk w b 1 y) (show 0 < bm b by omega)
  refine Sp.of ok_M_isIn (b2i_rc _) rfl ?_
  have L : bk b = 5 → ∀ (n : Nat) (i : Nat) (iv : Int32), i + n = bc b → lyr w b y n i = lyr w b y (bc b) 0 → iv = nI i → Ev o0 (d + 3) me_M_isIn 121 [.ref 5, .int (nI k), .int (nI y), .int iv, .retAddr 0] [] (hp x A B t) (some (.int (b2i (isin w b y)))) (hp x A B t) := by
    intro hkd n
    induction n using Nat.strongRecOn with
    | _ n ih =>
      intro i iv h1 hn e3
      subst e3
      have h6 := hb.2.2.2.2.2.2.2.2.2.2.1
      have hlp := lpl_lt (w := w) hb i y
      refine Ev.go 2 rfl ?_
      refine Ev.gf rfl lf_1_31_1 hp_5 rfl ?_
      refine Ev.go 1 rfl ?_
      refine Ev.iln rfl hp_13 rfl (by omega) (by omega) ?_
      rw [r13]
      refine Ev.ige rfl rfl rfl (by omega) (by omega) (fun c128 => ?_) (fun c128 => ?_)
      · refine Ev.go 2 rfl ?_
        refine Ev.rm rfl rfl rfl (by omega) (by omega) (by omega) ?_
        refine Ev.go 1 rfl ?_
        refine Ev.ine rfl rfl rfl (by omega) (by omega) (fun c165 => ?_) (fun c165 => ?_)
        · refine Ev.go 1 rfl ?_
          exact Ev.reti rfl (by
                  have e0 : n = 0 := by omega
                  subst e0
                  have e1 : i = lyr w b y (bc b) 0 := hn
                  unfold isin
                  rw [if_neg (by omega), if_neg (by omega), if_pos hkd, ← e1]
                  first | exact b2i_dt (by omega) | exact b2i_df (by omega))
        refine Ev.go 2 rfl ?_
        exact Ev.reti rfl (by
                have e0 : n = 0 := by omega
                subst e0
                have e1 : i = lyr w b y (bc b) 0 := hn
                unfold isin
                rw [if_neg (by omega), if_neg (by omega), if_pos hkd, ← e1]
                first | exact b2i_dt (by omega) | exact b2i_df (by omega))
      refine Ev.go 1 rfl ?_
      refine Ev.gf rfl lf_1_34_1 hp_5 rfl ?_
      refine Ev.go 5 rfl ?_
      refine Ev.lln rfl hp_14 (by rw [pk_mul, nI_add]) (by omega) (by omega) ?_
      rw [r14 i (by omega)]
      refine Ev.go 4 rfl ?_
      refine Ev.cv (E' := me_M_layerPlace) rfl mk_M_layerPlace lv_1_173_1 rfl hp_5 rfl (e_M_layerPlace (d + 1) x t ⟨hw, hL, hb, hB, hk⟩ rfl rfl rfl (by omega) hy) ?_
      refine Ev.cs (E' := me_M_has) rfl mk_M_has ls_1_100 rfl rfl (e_M_has (d + 2) _ rfl rfl (by have := hb.2.2.2.2.2.2.2.2.2.2.2 i; omega) (by omega)) ?_
      refine Ev.zb rfl rfl (fun c152 => ?_) (fun c152 => ?_)
      · refine Ev.go 2 rfl ?_
        refine Ev.rm rfl rfl rfl (by omega) (by omega) (by omega) ?_
        refine Ev.go 1 rfl ?_
        refine Ev.ine rfl rfl rfl (by omega) (by omega) (fun c165 => ?_) (fun c165 => ?_)
        · refine Ev.go 1 rfl ?_
          exact Ev.reti rfl (by
                  obtain ⟨n, rfl⟩ : ∃ z, n = z + 1 := ⟨n - 1, by omega⟩
                  have e1 : i = lyr w b y (bc b) 0 := by rw [← hn]; simp [lyr, c152]
                  unfold isin
                  rw [if_neg (by omega), if_neg (by omega), if_pos hkd, ← e1]
                  first | exact b2i_dt (by omega) | exact b2i_df (by omega))
        refine Ev.go 2 rfl ?_
        exact Ev.reti rfl (by
                obtain ⟨n, rfl⟩ : ∃ z, n = z + 1 := ⟨n - 1, by omega⟩
                have e1 : i = lyr w b y (bc b) 0 := by rw [← hn]; simp [lyr, c152]
                unfold isin
                rw [if_neg (by omega), if_neg (by omega), if_pos hkd, ← e1]
                first | exact b2i_dt (by omega) | exact b2i_df (by omega))
      refine Ev.go 2 rfl ?_
      obtain ⟨n, rfl⟩ : ∃ z, n = z + 1 := ⟨n - 1, by omega⟩
      exact ih n (by omega) (i + 1) _ (by omega) (by rw [← hn]; simp [lyr, c152]) (by rw [nI_add])
  refine Ev.go 1 rfl ?_
  refine Ev.gf rfl lf_1_16_1 hp_5 rfl ?_
  refine Ev.go 1 rfl ?_
  refine Ev.iln rfl hp_8 rfl (by omega) (by omega) ?_
  rw [r8]
  refine Ev.go 1 rfl ?_
  refine Ev.ine rfl rfl rfl (by omega) (by omega) (fun c7 => ?_) (fun c7 => ?_)
  · refine Ev.go 1 rfl ?_
    refine Ev.gf rfl lf_1_16_1 hp_5 rfl ?_
    refine Ev.go 1 rfl ?_
    refine Ev.iln rfl hp_8 rfl (by omega) (by omega) ?_
    rw [r8]
    refine Ev.go 1 rfl ?_
    refine Ev.ine rfl rfl rfl (by omega) (by omega) (fun c77 => ?_) (fun c77 => ?_)
    · refine Ev.go 1 rfl ?_
      refine Ev.gf rfl lf_1_16_1 hp_5 rfl ?_
      refine Ev.go 1 rfl ?_
      refine Ev.iln rfl hp_8 rfl (by omega) (by omega) ?_
      rw [r8]
      refine Ev.go 1 rfl ?_
      refine Ev.ine rfl rfl rfl (by omega) (by omega) (fun c116 => ?_) (fun c116 => ?_)
      · refine Ev.go 3 rfl ?_
        refine Ev.cv (E' := me_M_placesOf) rfl mk_M_placesOf lv_1_166_1 rfl hp_5 rfl (e_M_placesOf d x t ⟨hw, hL, hb, hB, hk⟩ rfl rfl hy) ?_
        refine Ev.go 2 rfl ?_
        refine Ev.cv (E' := me_M_filled) rfl mk_M_filled lv_1_176_1 rfl hp_5 rfl (e_M_filled (d + 2) x t ⟨hw, hL, hb, hB, hk⟩ rfl) ?_
        refine Ev.go 4 rfl ?_
        refine Ev.lne rfl rfl (lN_andn _ _) rfl (by have := andn_lt (b := fil b) (pls_lt (w := w) hb y); omega) (by omega) (fun c191 => ?_) (fun c191 => ?_)
        · refine Ev.go 1 rfl ?_
          exact Ev.reti rfl (by
              unfold isin
              rw [if_neg c7, if_neg c77, if_neg c116]; first | exact b2i_dt c191 | exact b2i_df c191)
        refine Ev.go 2 rfl ?_
        exact Ev.reti rfl (by
            unfold isin
            rw [if_neg c7, if_neg c77, if_neg c116]; first | exact b2i_dt c191 | exact b2i_df c191)
      refine Ev.go 2 rfl ?_
      exact L c116 (bc b) 0 _ (by omega) rfl rfl
    refine Ev.go 3 rfl ?_
    refine Ev.cv (E' := me_M_together) rfl mk_M_together lv_1_170_1 rfl hp_5 rfl (e_M_together d x t ⟨hw, hL, hb, hB, hk⟩ rfl rfl hy c77) ?_
    refine Ev.go 4 rfl ?_
    refine Ev.cv (E' := me_M_lawAt) rfl mk_M_lawAt lv_1_147_1 rfl hp_5 rfl (e_M_lawAt (d + 2) x t ⟨hw, hL, hb, hB, hk⟩ rfl rfl (by omega)) ?_
    refine Ev.go 1 rfl ?_
    refine Ev.cv (E' := me_M_valueOf) rfl mk_M_valueOf lv_1_96_1 rfl hp_5 rfl (e_M_valueOf (d + 2) x t hw hL rfl rfl (hb.nt hw (by omega)).1 hy) ?_
    refine Ev.cs (E' := me_M_markOf) rfl mk_M_markOf ls_1_150 rfl rfl (e_M_markOf (d + 2) _ rfl (val_lt _ _ _)) ?_
    refine Ev.ine rfl rfl rfl (by have := tgf_lt (w := w) hb y 3; rw [tgf_3] at this; omega) (by have := vl_lt (w := w) (b := b) 0 y; unfold vl at this; omega) (fun c100 => ?_) (fun c100 => ?_)
    · refine Ev.go 1 rfl ?_
      exact Ev.reti rfl (by
          unfold isin
          rw [if_neg c7, if_pos c77]; first | exact b2i_dt c100 | exact b2i_df c100)
    refine Ev.go 2 rfl ?_
    exact Ev.reti rfl (by
        unfold isin
        rw [if_neg c7, if_pos c77]; first | exact b2i_dt c100 | exact b2i_df c100)
  refine Ev.go 3 rfl ?_
  refine Ev.cv (E' := me_M_firstPlace) rfl mk_M_firstPlace lv_1_153_1 rfl hp_5 rfl (e_M_firstPlace (d + 1) x t ⟨hw, hL, hb, hB, hk⟩ rfl rfl hy) ?_
  refine Ev.go 4 rfl ?_
  refine Ev.cv (E' := me_M_pushedMark) rfl mk_M_pushedMark lv_1_156_1 rfl hp_5 rfl (e_M_pushedMark (d + 1) x t ⟨hw, hL, hb, hB, hk⟩ rfl rfl hy (by have := h3 c7; omega)) ?_
  refine Ev.go 2 rfl ?_
  refine Ev.gf rfl lf_1_25_1 hp_5 rfl ?_
  refine Ev.go 5 rfl ?_
  refine Ev.iln rfl hp_11 (by rw [pk_mul, nI_add]) (by omega) (by omega) ?_
  rw [r11 (frs w b y) (by omega)]
  refine Ev.go 1 rfl ?_
  refine Ev.ieq rfl rfl rfl (by have := h7 (frs w b y); omega) (by omega) (fun c38 => ?_) (fun c38 => ?_)
  · refine Ev.go 2 rfl ?_
    exact Ev.reti rfl (by
        unfold isin
        rw [if_pos c7]; rw [decide_eq_true c38]; rfl)
  refine Ev.go 1 rfl ?_
  refine Ev.gf rfl lf_1_25_1 hp_5 rfl ?_
  refine Ev.go 7 rfl ?_
  refine Ev.cv (E' := me_M_otherPlace) rfl mk_M_otherPlace lv_1_159_1 rfl hp_5 rfl (e_M_otherPlace (d + 2) x t ⟨hw, hL, hb, hB, hk⟩ rfl rfl rfl hf (by omega)) ?_
  refine Ev.go 1 rfl ?_
  refine Ev.iln rfl hp_11 (by rw [pk_mul, nI_add]) (by omega) (by omega) ?_
  rw [r11 (oth (bm b) (frs w b y) (mrk w b 1 y)) (by omega)]
  refine Ev.go 1 rfl ?_
  refine Ev.ine rfl rfl rfl (by have := h7 (oth (bm b) (frs w b y) (mrk w b 1 y)); omega) (by omega) (fun c61 => ?_) (fun c61 => ?_)
  · refine Ev.go 1 rfl ?_
    exact Ev.reti rfl (by
        unfold isin
        rw [if_pos c7]; rw [decide_eq_false c38, Bool.false_or]; first | exact b2i_dt (by omega) | exact b2i_df (by omega))
  refine Ev.go 2 rfl ?_
  exact Ev.reti rfl (by
      unfold isin
      rw [if_pos c7]; rw [decide_eq_false c38, Bool.false_or]; first | exact b2i_dt (by omega) | exact b2i_df (by omega))
theorem e_M_allIn (d : Nat) (x : sn_X5) {A : sn_A2} {B : sn_B2} (t : sn_H) {w : sn_Lw} {k : Nat} {b : sn_Bk} (q : MK A B w k b) {kv : Int32} (e1 : kv = nI k) : Sp (d + 4) me_M_allIn [.ref 5, .int kv] (hp x A B t) (some (.long (lN (ain w b)))) (hp x A B t) := by
  obtain ⟨hw, hL, hb, hB, hk⟩ := q
  obtain ⟨r8, r9, r10, r11, r12, r13, r14⟩ := id hB
  have hm := hb.2.1
  have hpc := hb.2.2.2.2.1
  have hbl := hb.bl256 hw.1
  subst e1
  refine Sp.of ok_M_allIn trivial rfl ?_
  refine Ev.go 4 rfl ?_
  skip
  have L : ∀ (n : Nat) (i : Nat) (bv : Int64) (iv : Int32), i + n = 32 → bv = lN (orf (fun x => if isin w b x then 2 ^ x else 0) i) → iv = nI i → Ev o0 (d + 4) me_M_allIn 5 [.ref 5, .int (nI k), .long bv, .retAddr 0, .int iv] [] (hp x A B t) (some (.long (lN (ain w b)))) (hp x A B t) := by
    intro n
    induction n using Nat.strongRecOn with
    | _ n ih =>
      intro i bv iv h1 h2 e3
      subst h2
      subst e3
      refine Ev.go 2 rfl ?_
      refine Ev.ige rfl rfl rfl (by omega) (by omega) (fun c9 => ?_) (fun c9 => ?_)
      · refine Ev.go 1 rfl ?_
        exact Ev.retl rfl (by rw [show i = 32 by omega]; rfl)
      refine Ev.go 4 rfl ?_
      refine Ev.cv (E' := me_M_isIn) rfl mk_M_isIn lv_1_181_1 rfl hp_5 rfl (e_M_isIn d x t ⟨hw, hL, hb, hB, hk⟩ rfl rfl (by omega)) ?_
      refine Ev.zb rfl rfl (fun c20 => ?_) (fun c20 => ?_)
      · refine Ev.go 5 rfl ?_
        exact ih (n - 1) (by omega) (i + 1) _ _ (by omega) (or_step (by simp [c20])) (by rw [nI_add])
      refine Ev.go 4 rfl ?_
      refine Ev.go 4 rfl ?_
      exact ih (n - 1) (by omega) (i + 1) _ _ (by omega) (by rw [sh1 (by omega)]; exact or_step (by simp [c20])) (by rw [nI_add])
  exact L 32 0 _ _ (by omega) rfl rfl
/-- what keys() tells -/
def kof (w : sn_Lw) (b : sn_Bk) (c : Nat) : Nat := if c = 0 then ain w b else if c = 1 then andn (ain w b) (rin b) else if c = 2 then andn (rin b) (ain w b) else rin b
theorem kof_lt (w : sn_Lw) (b : sn_Bk) (c : Nat) : kof w b c < 2 ^ 32 := by
  unfold kof
  split
  · exact ain_lt w b
  split
  · exact andn_lt (ain_lt w b)
  split
  · exact andn_lt (rin_lt b)
  · exact rin_lt b
/-- what about() tells -/
def abt (b : sn_Bk) (c : Nat) : Nat := if c = 0 then bk b else if c = 1 then bm b else if c = 2 then bl b else if c = 3 then nab b else if c = 4 then pcnt (rin b) else bc b
theorem e_M_keysOf (d : Nat) (x : sn_X5) {A : sn_A2} {B : sn_B2} (t : sn_H) {w : sn_Lw} {k : Nat} {b : sn_Bk} (q : MK A B w k b) {kv cv : Int32} {c : Nat} (e1 : kv = nI k) (e2 : cv = nI c) (hc : c < 4) : Sp (d + 5) me_M_keysOf [.ref 5, .int kv, .int cv] (hp x A B t) (some (.long (lN (kof w b c)))) (hp x A B t) := by
  obtain ⟨hw, hL, hb, hB, hk⟩ := q
  obtain ⟨r8, r9, r10, r11, r12, r13, r14⟩ := id hB
  have hm := hb.2.1
  have hpc := hb.2.2.2.2.1
  have hbl := hb.bl256 hw.1
  subst e1
  subst e2
  refine Sp.of ok_M_keysOf trivial rfl ?_
  refine Ev.go 2 rfl ?_
  refine Ev.cv (E' := me_M_allIn) rfl mk_M_allIn lv_1_207_1 rfl hp_5 rfl (e_M_allIn d x t ⟨hw, hL, hb, hB, hk⟩ rfl) ?_
  refine Ev.go 3 rfl ?_
  refine Ev.cv (E' := me_M_reallyIn) rfl mk_M_reallyIn lv_1_138_1 rfl hp_5 rfl (e_M_reallyIn (d + 4) x t ⟨hw, hL, hb, hB, hk⟩ rfl) ?_
  refine Ev.go 2 rfl ?_
  refine Ev.zne rfl rfl (by omega) (fun c14 => ?_) (fun c14 => ?_)
  · refine Ev.go 2 rfl ?_
    refine Ev.ine rfl rfl rfl (by omega) (by omega) (fun c23 => ?_) (fun c23 => ?_)
    · refine Ev.go 2 rfl ?_
      refine Ev.ine rfl rfl rfl (by omega) (by omega) (fun c39 => ?_) (fun c39 => ?_)
      · refine Ev.go 1 rfl ?_
        exact Ev.retl rfl (by unfold kof; rw [if_neg (by omega), if_neg c23, if_neg c39])
      refine Ev.go 6 rfl ?_
      exact Ev.retl rfl (by unfold kof; rw [if_neg (by omega), if_neg c23, if_pos c39, lN_andn])
    refine Ev.go 6 rfl ?_
    exact Ev.retl rfl (by unfold kof; rw [if_neg (by omega), if_pos c23, lN_andn])
  refine Ev.go 2 rfl ?_
  exact Ev.retl rfl (by unfold kof; rw [if_pos c14])
theorem e_M_aboutOf (d : Nat) (x : sn_X5) {A : sn_A2} {B : sn_B2} (t : sn_H) {w : sn_Lw} {k : Nat} {b : sn_Bk} (q : MK A B w k b) {kv cv : Int32} {c : Nat} (e1 : kv = nI k) (e2 : cv = nI c) (hc : c < 6) : Sp (d + 1) me_M_aboutOf [.ref 5, .int kv, .int cv] (hp x A B t) (some (.int (nI (abt b c)))) (hp x A B t) := by
  obtain ⟨hw, hL, hb, hB, hk⟩ := q
  obtain ⟨r8, r9, r10, r11, r12, r13, r14⟩ := id hB
  have hm := hb.2.1
  have hpc := hb.2.2.2.2.1
  have hbl := hb.bl256 hw.1
  subst e1
  subst e2
  refine Sp.of ok_M_aboutOf trivial rfl ?_
  refine Ev.go 1 rfl ?_
  have hc6 : c = 0 ∨ c = 1 ∨ c = 2 ∨ c = 3 ∨ c = 4 ∨ c = 5 := by omega
  rcases hc6 with rfl | rfl | rfl | rfl | rfl | rfl
  · refine Ev.p (pc' := 36) rfl rfl trivial ?_
    refine Ev.go 1 rfl ?_
    refine Ev.gf rfl lf_1_16_1 hp_5 rfl ?_
    refine Ev.go 1 rfl ?_
    refine Ev.iln rfl hp_8 rfl (by omega) (by omega) ?_
    rw [r8]
    exact Ev.reti rfl (rfl)
  · refine Ev.p (pc' := 43) rfl rfl trivial ?_
    refine Ev.go 1 rfl ?_
    refine Ev.gf rfl lf_1_19_1 hp_5 rfl ?_
    refine Ev.go 1 rfl ?_
    refine Ev.iln rfl hp_9 rfl (by omega) (by omega) ?_
    rw [r9]
    exact Ev.reti rfl (rfl)
  · refine Ev.p (pc' := 50) rfl rfl trivial ?_
    refine Ev.go 1 rfl ?_
    refine Ev.gf rfl lf_1_22_1 hp_5 rfl ?_
    refine Ev.go 1 rfl ?_
    refine Ev.iln rfl hp_10 rfl (by omega) (by omega) ?_
    rw [r10]
    exact Ev.reti rfl (rfl)
  · refine Ev.p (pc' := 57) rfl rfl trivial ?_
    refine Ev.go 2 rfl ?_
    refine Ev.cv (E' := me_M_numbersAbove) rfl mk_M_numbersAbove lv_1_134_1 rfl hp_5 rfl (e_M_numbersAbove d x t ⟨hw, hL, hb, hB, hk⟩ rfl) ?_
    exact Ev.reti rfl (rfl)
  · refine Ev.p (pc' := 63) rfl rfl trivial ?_
    refine Ev.go 2 rfl ?_
    refine Ev.cv (E' := me_M_reallyIn) rfl mk_M_reallyIn lv_1_138_1 rfl hp_5 rfl (e_M_reallyIn d x t ⟨hw, hL, hb, hB, hk⟩ rfl) ?_
    refine Ev.cs (E' := me_M_ones) rfl mk_M_ones ls_1_127 rfl rfl (e_M_ones d _ rfl (rin_lt b)) ?_
    exact Ev.reti rfl (rfl)
  · refine Ev.p (pc' := 72) rfl rfl trivial ?_
    refine Ev.go 1 rfl ?_
    refine Ev.gf rfl lf_1_31_1 hp_5 rfl ?_
    refine Ev.go 1 rfl ?_
    refine Ev.iln rfl hp_13 rfl (by omega) (by omega) ?_
    rw [r13]
    exact Ev.reti rfl (rfl)
