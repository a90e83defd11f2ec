/-! THE CLASS: who is in -/
theorem nI_ge0 {a : Nat} (h : a < 2 ^ 31) : ¬ nI a < (0 : Int32) := by
  rw [Int32.lt_iff_toInt_lt, nI_ti h, show (0 : Int32).toInt = 0 by decide]
  omega
theorem v_filledPlaces (d : Nat) {h : sn_H} {b : sn_Bk} {ad ru nl : Nat} {ex : List Value} (hb : WB nl b) (hB : h[ad]? = some (.inr (bk b + 3, bfs b ad ru ex))) (hN : NU h b ad) : Sp d (vt_filledPlaces (bk b + 3)) [.ref ad] h (some (.long (lN (fil b)))) h := by
  have hk : bk b = 0 ∨ bk b = 1 ∨ bk b = 2 ∨ bk b = 3 ∨ bk b = 4 ∨ bk b = 5 := by have := hb.1; omega
  rcases hk with e | e | e | e | e | e <;> rw [e] <;> exact e_B_filledPlaces d hb hB hN
theorem v_keysReally (d : Nat) {h : sn_H} {b : sn_Bk} {ad ru nl : Nat} {ex : List Value} (hb : WB nl b) (hB : h[ad]? = some (.inr (bk b + 3, bfs b ad ru ex))) (hN : TI h b ad) : Sp d (vt_keysReally (bk b + 3)) [.ref ad] h (some (.long (lN (rin b)))) h := by
  have hk : bk b = 0 ∨ bk b = 1 ∨ bk b = 2 ∨ bk b = 3 ∨ bk b = 4 ∨ bk b = 5 := by have := hb.1; omega
  rcases hk with e | e | e | e | e | e <;> rw [e] <;> exact e_B_keysReally d hb hB hN
theorem e_P_holds (d : Nat) {h : sn_H} {w : sn_Lw} {b : sn_Bk} {ad ru : Nat} (hw : WL w) (hb : WB w.1 b) (hR : BR h w b ad ru) {y : Nat} {yv : Int32} (e1 : yv = nI y) (hy : y < 32) (hk : bk b = 0 ∨ bk b = 1 ∨ bk b = 2) : Sp (d + 3) me_P_holds [.ref ad, .int yv] h (some (.int (b2i (isin w b y)))) h := by
  subst e1
  have hci : sn_pl (bk b + 3) := by unfold sn_pl; omega
  have hB := hR.1.1
  refine Sp.of ok_P_holds (b2i_rc _) rfl ?_
  refine Ev.go 2 rfl ?_
  refine Ev.cv (E' := vt_placeBits (bk b + 3)) rfl (mkb_placeBits (sn_pl_bk hci)) (lvb_3_23 hci) rfl hB rfl (v_placeBits d hw hb hR.1 rfl hy) ?_
  refine Ev.go 1 rfl ?_
  refine Ev.cv (E' := vt_filledPlaces (bk b + 3)) rfl (mkb_filledPlaces (sn_pl_bk hci)) (lvb_3_27 hci) rfl hB rfl (v_filledPlaces (d + 2) hb hB hR.2.1) ?_
  refine Ev.go 4 rfl ?_
  refine Ev.lne rfl rfl (lN_andn _ _) rfl (by have := andn_lt (b := fil b) (pls_lt (w := w) hb y); omega) (by omega) (fun c15 => ?_) (fun c15 => ?_)
  · refine Ev.go 1 rfl ?_
    exact Ev.reti rfl (by
        unfold isin
        rw [if_neg (by omega), if_neg (by omega), if_neg (by omega)]
        first | exact b2i_dt (by assumption) | exact b2i_df (by assumption))
  refine Ev.go 2 rfl ?_
  exact Ev.reti rfl (by
      unfold isin
      rw [if_neg (by omega), if_neg (by omega), if_neg (by omega)]
      first | exact b2i_dt (by assumption) | exact b2i_df (by assumption))
theorem e_U_holds (d : Nat) {h : sn_H} {w : sn_Lw} {b : sn_Bk} {ad ru : Nat} (hw : WL w) (hb : WB w.1 b) (hR : BR h w b ad ru) {y : Nat} {yv : Int32} (e1 : yv = nI y) (hy : y < 32) (h3 : bk b = 3) : Sp (d + 2) me_U_holds [.ref ad, .int yv] h (some (.int (b2i (isin w b y)))) h := by
  subst e1
  have hO := hR.1
  have hm := hb.2.1
  obtain ⟨fn, hN, hn⟩ := hR.2.1
  have hB := hO.1
  have hf := frs_lt (w := w) hb y
  have hmk := mrk_le (w := w) (b := b) 1 y
  have ho := oth_lt (frs w b y) (mrk w b 1 y) (show 0 < bm b by omega)
  have hn8 := hb.2.2.2.2.2.2.2.1
  rw [h3] at hB
  refine Sp.of ok_U_holds (b2i_rc _) rfl ?_
  refine Ev.go 2 rfl ?_
  refine Ev.cv (E' := me_U_firstPlace) rfl mk_U_firstPlace lv_6_45_6 rfl hB rfl (e_U_firstPlace d hw hb hO h3 rfl hy) ?_
  refine Ev.go 3 rfl ?_
  refine Ev.cv (E' := me_U_markOf) rfl mk_U_markOf lv_6_48_6 rfl hB rfl (e_U_markOf d hw hb hO h3 rfl hy) ?_
  refine Ev.go 2 rfl ?_
  refine Ev.gf rfl lf_6_54_6 hB rfl ?_
  refine Ev.go 1 rfl ?_
  refine Ev.iln rfl hN rfl (by omega) (by omega) ?_
  rw [hn _ (by omega)]
  refine Ev.go 1 rfl ?_
  refine Ev.ieq rfl rfl rfl (by have := hn8 (frs w b y); omega) (by omega) (fun c19 => ?_) (fun c19 => ?_)
  · refine Ev.go 2 rfl ?_
    exact Ev.reti rfl (by
        unfold isin
        rw [if_pos h3]
        simp [b2i, *]
        rfl)
  refine Ev.go 1 rfl ?_
  refine Ev.gf rfl lf_6_54_6 hB rfl ?_
  refine Ev.go 3 rfl ?_
  refine Ev.cv (E' := me_U_otherPlace) rfl mk_U_otherPlace lv_6_51_6 rfl hB rfl (e_U_otherPlace d hw hb hO h3 rfl rfl hf (by omega)) ?_
  refine Ev.iln rfl hN rfl (by omega) (by omega) ?_
  rw [hn _ (by omega)]
  refine Ev.go 1 rfl ?_
  refine Ev.ine rfl rfl rfl (by have := hn8 (oth (bm b) (frs w b y) (mrk w b 1 y)); omega) (by omega) (fun c34 => ?_) (fun c34 => ?_)
  · refine Ev.go 1 rfl ?_
    exact Ev.reti rfl (by
        unfold isin
        rw [if_pos h3]
        simp [b2i, *]
        rfl)
  refine Ev.go 2 rfl ?_
  exact Ev.reti rfl (by
      unfold isin
      rw [if_pos h3]
      simp [b2i, *]
      rfl)
def xof (f : Nat → Nat) : Nat → Nat
  | 0 => 0
  | n + 1 => xof f n ^^^ f n
theorem xof_lt {f : Nat → Nat} {k : Nat} (h : ∀ i, f i < 2 ^ k) : ∀ n, xof f n < 2 ^ k
  | 0 => Nat.two_pow_pos k
  | n + 1 => Nat.xor_lt_two_pow (xof_lt h n) (h n)
theorem xof_3 {s a b c : Nat} (g : Nat → Nat) (hs : ∀ i, s.testBit i = true ↔ (i = a ∨ i = b ∨ i = c)) (h1 : a < b) (h2 : b < c) : ∀ n, xof (fun i => if s.testBit i then g i else 0) n = (if a < n then g a else 0) ^^^ (if b < n then g b else 0) ^^^ (if c < n then g c else 0)
  | 0 => by simp [xof]
  | n + 1 => by
    rw [xof, xof_3 g hs h1 h2 n]
    by_cases ea : n = a
    · subst ea
      rw [if_pos (show s.testBit n = true from (hs n).mpr (by omega)), if_neg (show ¬ n < n by omega), if_pos (show n < n + 1 by omega), if_neg (show ¬ b < n by omega), if_neg (show ¬ b < n + 1 by omega), if_neg (show ¬ c < n by omega), if_neg (show ¬ c < n + 1 by omega)]
      simp
    · by_cases eb : n = b
      · subst eb
        rw [if_pos (show s.testBit n = true from (hs n).mpr (by omega)), if_pos (show a < n by omega), if_pos (show a < n + 1 by omega), if_neg (show ¬ n < n by omega), if_pos (show n < n + 1 by omega), if_neg (show ¬ c < n by omega), if_neg (show ¬ c < n + 1 by omega)]
        simp
      · by_cases ec : n = c
        · subst ec
          rw [if_pos (show s.testBit n = true from (hs n).mpr (by omega)), if_pos (show a < n by omega), if_pos (show a < n + 1 by omega), if_pos (show b < n by omega), if_pos (show b < n + 1 by omega), if_neg (show ¬ n < n by omega), if_pos (show n < n + 1 by omega)]
          simp
        · rw [if_neg (show ¬ s.testBit n = true from fun q => by have := (hs n).mp q; omega)]
          have e1 : (a < n + 1) = (a < n) := propext (by omega)
          have e2 : (b < n + 1) = (b < n) := propext (by omega)
          have e3 : (c < n + 1) = (c < n) := propext (by omega)
          simp only [e1, e2, e3, Nat.xor_zero]
theorem plc4 {w : sn_Lw} {b : sn_Bk} {n : Nat} (hb : WB n b) (h4 : bk b = 4) (y : Nat) : plc w b 0 y < plc w b 1 y ∧ plc w b 1 y < plc w b 2 y := by
  have h3 := hb.2.2.1 h4
  have hp := hb.2.2.2.2.2.2.1 h4
  have hq : prt b = bm b / 3 := by unfold prt; rw [hp]; omega
  have hq1 : 1 ≤ prt b := by omega
  have m0 := Nat.mod_lt (vl w b 0 y) (show 0 < prt b by omega)
  have m1 := Nat.mod_lt (vl w b 1 y) (show 0 < prt b by omega)
  have m2 := Nat.mod_lt (vl w b 2 y) (show 0 < prt b by omega)
  have p0 : plc w b 0 y = 0 * prt b + vl w b 0 y % prt b := by unfold plc; rw [if_pos (by omega)]; exact Nat.mod_eq_of_lt (by omega)
  have p1 : plc w b 1 y = 1 * prt b + vl w b 1 y % prt b := by unfold plc; rw [if_pos (by omega)]; exact Nat.mod_eq_of_lt (by omega)
  have p2 : plc w b 2 y = 2 * prt b + vl w b 2 y % prt b := by unfold plc; rw [if_pos (by omega)]; exact Nat.mod_eq_of_lt (by omega)
  omega
theorem pls4 {w : sn_Lw} {b : sn_Bk} {n : Nat} (hb : WB n b) (h4 : bk b = 4) (y i : Nat) : (pls w b y).testBit i = true ↔ (i = plc w b 0 y ∨ i = plc w b 1 y ∨ i = plc w b 2 y) := by
  have hp := hb.2.2.2.2.2.2.1 h4
  unfold pls
  rw [if_neg (by omega), hp]
  simp only [orf, Nat.testBit_or, Nat.testBit_two_pow, Nat.zero_testBit, Bool.or_eq_true, decide_eq_true_eq, Bool.false_eq_true, false_or]
  omega
theorem tog_xof {w : sn_Lw} {b : sn_Bk} {n : Nat} (hb : WB n b) (h4 : bk b = 4) (y : Nat) : xof (fun i => if (pls w b y).testBit i then bn b i else 0) (bm b) = tog w b y := by
  rw [xof_3 (bn b) (pls4 (w := w) hb h4 y) (plc4 hb h4 y).1 (plc4 hb h4 y).2, if_pos (plc_lt hb 0 y), if_pos (plc_lt hb 1 y), if_pos (plc_lt hb 2 y)]
  rfl
theorem e_F_markOf (d : Nat) {h : sn_H} {w : sn_Lw} {b : sn_Bk} {ad ru : Nat} {ex : List Value} (hw : WL w) (hb : WB w.1 b) (hO : BO h w b ad ru ex) (h4 : bk b = 4) {y : Nat} {yv : Int32} (e1 : yv = nI y) (hy : y < 32) : Sp (d + 1) me_F_markOf [.ref ad, .int yv] h (some (.int (nI (mrk w b 0 y)))) h := by
  subst e1
  obtain ⟨hB, fr, hF, hfr⟩ := hO
  have hm := hb.2.1
  have hpc := hb.2.2.2.2.1
  have hbk := hb.1
  rw [h4] at hB
  obtain ⟨la, hla, hLa⟩ := hfr 0 (by omega)
  have hnt := hb.nt hw (j := 0) (by omega)
  refine Sp.of ok_F_markOf trivial rfl ?_
  refine Ev.go 1 rfl ?_
  refine Ev.gf rfl lf_7_22_7 hB rfl ?_
  refine Ev.ln rfl hF rfl ?_
  refine Ev.zle rfl rfl (by omega) (fun c5 => ?_) (fun c5 => ?_)
  · refine Ev.go 1 rfl ?_
    exact absurd c5 (by omega)
  refine Ev.go 1 rfl ?_
  refine Ev.gf rfl lf_7_22_7 hB rfl ?_
  refine Ev.go 1 rfl ?_
  refine Ev.aln rfl (Or.inl rfl) hF rfl (by omega) (by omega) hla ?_
  refine Ev.go 1 rfl ?_
  refine Ev.cv (E' := me_W_markFor) rfl mk_W_markFor lv_7_26_2 rfl hLa rfl (e_W_markFor d hLa rfl hnt.2.1 hnt.2.2 hy) ?_
  refine Ev.go 1 rfl ?_
  exact Ev.reti rfl (rfl)
theorem e_F_together (d : Nat) {h : sn_H} {b : sn_Bk} {ad ru nl : Nat} {ex : List Value} (hb : WB nl b) (hB : h[ad]? = some (.inr (bk b + 3, bfs b ad ru ex))) (h4 : bk b = 4) (hN : NU h b ad) {s : Nat} {sv : Int64} (e1 : sv = lN s) (hs : s < 2 ^ 32) : Sp (d + 1) me_F_together [.ref ad, .long sv] h (some (.int (nI (xof (fun i => if s.testBit i then bn b i else 0) (bm b))))) h := by
  subst e1
  obtain ⟨f, hf, hfn⟩ := hN
  have hm := hb.2.1
  rw [h4] at hB
  refine Sp.of ok_F_together trivial rfl ?_
  have L : ∀ (n : Nat) (i : Nat) (av : Int32) (iv : Int32), (i + n = bm b) → (av = nI (xof (fun i => if s.testBit i then bn b i else 0) i)) → (iv = nI i) → Ev o0 (d + 1) me_F_together 5 [.ref ad, .long (lN s), .retAddr 0, .int av, .int iv] [] h (some (.int (nI (xof (fun i => if s.testBit i then bn b i else 0) (bm b))))) h := by
    intro n
    induction n using Nat.strongRecOn with
    | _ n ih =>
      intro i av iv h1 h2 e3
      subst h2
      subst e3
      refine Ev.go 2 rfl ?_
      refine Ev.gf rfl lf_7_32_7 hB rfl ?_
      refine Ev.ige rfl rfl rfl (by omega) (by omega) (fun c11 => ?_) (fun c11 => ?_)
      · refine Ev.go 1 rfl ?_
        exact Ev.reti rfl (by rw [show i = bm b by omega])
      refine Ev.go 2 rfl ?_
      refine Ev.cs (E' := me_X_has) rfl mk_X_has ls_7_36 rfl rfl (e_X_has d h rfl rfl (by omega) (by omega)) ?_
      refine Ev.zb rfl rfl (fun c20 => ?_) (fun c20 => ?_)
      · refine Ev.go 2 rfl ?_
        exact ih (n - 1) (by omega) (i + 1) _ _ (by omega) (by simp [xof, c20]) (by rw [nI_add])
      refine Ev.go 2 rfl ?_
      refine Ev.gf rfl lf_7_40_7 hB rfl ?_
      refine Ev.go 1 rfl ?_
      refine Ev.iln rfl hf rfl (by omega) (by omega) ?_
      rw [hfn i (by omega)]
      refine Ev.go 4 rfl ?_
      exact ih (n - 1) (by omega) (i + 1) _ _ (by omega) (by rw [fb_xorI]; simp [xof, c20]) (by rw [nI_add])
  refine Ev.go 4 rfl ?_
  exact L (bm b) 0 _ _ (by omega) rfl rfl
theorem e_F_holds (d : Nat) {h : sn_H} {w : sn_Lw} {b : sn_Bk} {ad ru : Nat} (hw : WL w) (hb : WB w.1 b) (hR : BR h w b ad ru) {y : Nat} {yv : Int32} (e1 : yv = nI y) (hy : y < 32) (h4 : bk b = 4) : Sp (d + 2) me_F_holds [.ref ad, .int yv] h (some (.int (b2i (isin w b y)))) h := by
  subst e1
  have hO := hR.1
  have hB0 := hO.1
  have hB := hB0
  rw [h4] at hB
  have hmk := mrk_le (w := w) (b := b) 0 y
  have htg := tog_lt (w := w) hb y
  refine Sp.of ok_F_holds (b2i_rc _) rfl ?_
  refine Ev.go 3 rfl ?_
  refine Ev.cv (E' := me_A_placeBits) rfl mk_A_placeBits lv_7_43_7 rfl hB rfl (e_A_placeBits d hw hb hO rfl hy (by omega)) ?_
  refine Ev.cv (E' := me_F_together) rfl mk_F_together lv_7_47_7 rfl hB rfl (e_F_together d hb hB0 h4 hR.2.1 rfl (pls_lt (w := w) hb y)) ?_
  rw [tog_xof hb h4 y]
  refine Ev.go 2 rfl ?_
  refine Ev.cv (E' := me_F_markOf) rfl mk_F_markOf lv_7_51_7 rfl hB rfl (e_F_markOf d hw hb hO h4 rfl hy) ?_
  refine Ev.ine rfl rfl rfl (by omega) (by omega) (fun c14 => ?_) (fun c14 => ?_)
  · refine Ev.go 1 rfl ?_
    exact Ev.reti rfl (by
        unfold isin
        rw [if_neg (by omega), if_pos h4]
        first | exact b2i_dt (by assumption) | exact b2i_df (by assumption))
  refine Ev.go 2 rfl ?_
  exact Ev.reti rfl (by
      unfold isin
      rw [if_neg (by omega), if_pos h4]
      first | exact b2i_dt (by assumption) | exact b2i_df (by assumption))
theorem e_L_placeInRow (d : Nat) {h : sn_H} {w : sn_Lw} {b : sn_Bk} {ad ru : Nat} {ex : List Value} (hw : WL w) (hb : WB w.1 b) (hO : BO h w b ad ru ex) (h5 : bk b = 5) {r y : Nat} {rv yv : Int32} (e0 : rv = nI r) (e1 : yv = nI y) (hr : r < 2 ^ 31) (hy : y < 32) : Sp (d + 1) me_L_placeInRow [.ref ad, .int rv, .int yv] h (some (.int (nI (lpl w b r y)))) h := by
  subst e0; subst e1
  obtain ⟨hB, fr, hF, hfr⟩ := hO
  have hm := hb.2.1
  have hpc := hb.2.2.2.2.1
  have hbk := hb.1
  rw [h5] at hB
  have hrm := Nat.mod_lt r (show 0 < pcnt (bl b) by omega)
  obtain ⟨la, hla, hLa⟩ := hfr (r % pcnt (bl b)) (by omega)
  have hnt := hb.nt hw (j := r % pcnt (bl b)) (by omega)
  refine Sp.of ok_L_placeInRow trivial rfl ?_
  refine Ev.go 2 rfl ?_
  refine Ev.gf rfl lf_8_22_8 hB rfl ?_
  refine Ev.ln rfl hF rfl ?_
  refine Ev.cs (E' := me_X_rest) rfl mk_X_rest ls_8_26 rfl rfl (e_X_rest d h rfl rfl hr (by omega) (by omega)) ?_
  refine Ev.go 3 rfl ?_
  refine Ev.gf rfl lf_8_22_8 hB rfl ?_
  refine Ev.ln rfl hF rfl ?_
  refine Ev.ige rfl rfl rfl (by omega) (by omega) (fun c16 => ?_) (fun c16 => ?_)
  · refine Ev.go 1 rfl ?_
    exact absurd c16 (by omega)
  refine Ev.go 1 rfl ?_
  refine Ev.gf rfl lf_8_22_8 hB rfl ?_
  refine Ev.go 1 rfl ?_
  refine Ev.aln rfl (Or.inl rfl) hF rfl (by omega) (by omega) hla ?_
  refine Ev.go 2 rfl ?_
  refine Ev.gf rfl lf_8_30_8 hB rfl ?_
  refine Ev.cv (E' := me_W_placeFor) rfl mk_W_placeFor lv_8_33_2 rfl hLa rfl (e_W_placeFor d hLa rfl rfl hnt.2.1 hnt.2.2 hy (by omega) hm.2) ?_
  refine Ev.go 1 rfl ?_
  exact Ev.reti rfl (rfl)
theorem e_L_holds (d : Nat) {h : sn_H} {w : sn_Lw} {b : sn_Bk} {ad ru : Nat} (hw : WL w) (hb : WB w.1 b) (hR : BR h w b ad ru) (h5 : bk b = 5) {y : Nat} {yv : Int32} (e1 : yv = nI y) (hy : y < 32) : Sp (d + 2) me_L_holds [.ref ad, .int yv] h (some (.int (b2i (isin w b y)))) h := by
  subst e1
  have hO := hR.1
  have hbc := hb.2.2.2.2.2.2.2.2.2.2.1
  have hbr := hb.2.2.2.2.2.2.2.2.2.2.2
  have hB := hO.1
  rw [h5, show bex b ad = [.ref (ad + 3), .ref (ad + 4), .int (nI (bc b))] by unfold bex; rw [if_neg (by omega), if_neg (by omega), if_pos h5]] at hB
  obtain ⟨g, hG, hg⟩ := (hR.2.2.2.2.2.1 h5).1
  refine Sp.of ok_L_holds (b2i_rc _) rfl ?_
  have L : ∀ (n : Nat) (i : Nat) (iv : Int32), (i + n = bc b) → (lyr w b y n i = lyr w b y (bc b) 0) → (iv = nI i) → Ev o0 (d + 2) me_L_holds 2 [.ref ad, .int (nI y), .int iv] [] h (some (.int (b2i (isin w b y)))) h := by
    intro n
    induction n using Nat.strongRecOn with
    | _ n ih =>
      intro i iv h1 hn e3
      subst e3
      refine Ev.go 2 rfl ?_
      refine Ev.gf rfl lf_8_18_8 hB rfl ?_
      refine Ev.ige rfl rfl rfl (by omega) (by omega) (fun c7 => ?_) (fun c7 => ?_)
      · refine Ev.go 2 rfl ?_
        refine Ev.rm rfl rfl rfl (by omega) (by omega) (by omega) ?_
        refine Ev.go 1 rfl ?_
        refine Ev.ine rfl rfl rfl (by omega) (by omega) (fun c38 => ?_) (fun c38 => ?_)
        · refine Ev.go 1 rfl ?_
          exact Ev.reti rfl (by
                  have e0 : n = 0 := by omega
                  subst e0
                  have e1 : i = lyr w b y (bc b) 0 := hn
                  unfold isin
                  rw [if_neg (by omega), if_neg (by omega), if_pos h5, ← e1]
                  first | exact b2i_dt (by omega) | exact b2i_df (by omega))
        refine Ev.go 2 rfl ?_
        exact Ev.reti rfl (by
                have e0 : n = 0 := by omega
                subst e0
                have e1 : i = lyr w b y (bc b) 0 := hn
                unfold isin
                rw [if_neg (by omega), if_neg (by omega), if_pos h5, ← e1]
                first | exact b2i_dt (by omega) | exact b2i_df (by omega))
      have hlp := lpl_lt (w := w) hb i y
      have hbi := hbr i
      have hm := hb.2.1
      refine Ev.go 1 rfl ?_
      refine Ev.gf rfl lf_8_11_8 hB rfl ?_
      refine Ev.go 1 rfl ?_
      refine Ev.lln rfl hG rfl (by omega) (by omega) ?_
      rw [hg i (by omega)]
      refine Ev.go 3 rfl ?_
      refine Ev.cv (E' := me_L_placeInRow) rfl mk_L_placeInRow lv_8_38_8 rfl hB rfl (e_L_placeInRow d hw hb hO h5 rfl rfl (by omega) hy) ?_
      refine Ev.cs (E' := me_X_has) rfl mk_X_has ls_8_41 rfl rfl (e_X_has (d + 1) h rfl rfl (by omega) (by omega)) ?_
      refine Ev.zb rfl rfl (fun c25 => ?_) (fun c25 => ?_)
      · refine Ev.go 2 rfl ?_
        refine Ev.rm rfl rfl rfl (by omega) (by omega) (by omega) ?_
        refine Ev.go 1 rfl ?_
        refine Ev.ine rfl rfl rfl (by omega) (by omega) (fun c38 => ?_) (fun c38 => ?_)
        · refine Ev.go 1 rfl ?_
          exact Ev.reti rfl (by
                  obtain ⟨n, rfl⟩ : ∃ z, n = z + 1 := ⟨n - 1, by omega⟩
                  have e1 : i = lyr w b y (bc b) 0 := by rw [← hn]; simp [lyr, c25]
                  unfold isin
                  rw [if_neg (by omega), if_neg (by omega), if_pos h5, ← e1]
                  first | exact b2i_dt (by omega) | exact b2i_df (by omega))
        refine Ev.go 2 rfl ?_
        exact Ev.reti rfl (by
                obtain ⟨n, rfl⟩ : ∃ z, n = z + 1 := ⟨n - 1, by omega⟩
                have e1 : i = lyr w b y (bc b) 0 := by rw [← hn]; simp [lyr, c25]
                unfold isin
                rw [if_neg (by omega), if_neg (by omega), if_pos h5, ← e1]
                first | exact b2i_dt (by omega) | exact b2i_df (by omega))
      refine Ev.go 2 rfl ?_
      obtain ⟨n, rfl⟩ : ∃ z, n = z + 1 := ⟨n - 1, by omega⟩
      exact ih n (by omega) (i + 1) _ (by omega) (by rw [← hn]; simp [lyr, c25]) (by rw [nI_add])
  refine Ev.go 2 rfl ?_
  exact L (bc b) 0 _ (by omega) rfl rfl
theorem e_L_rowCount (d : Nat) {h : sn_H} {w : sn_Lw} {b : sn_Bk} {ad ru : Nat} (hw : WL w) (hb : WB w.1 b) (hR : BR h w b ad ru) (h5 : bk b = 5) : Sp d me_L_rowCount [.ref ad] h (some (.int (nI (bc b)))) h := by
  have hO := hR.1
  have hbc := hb.2.2.2.2.2.2.2.2.2.2.1
  have hbr := hb.2.2.2.2.2.2.2.2.2.2.2
  have hB := hO.1
  rw [h5, show bex b ad = [.ref (ad + 3), .ref (ad + 4), .int (nI (bc b))] by unfold bex; rw [if_neg (by omega), if_neg (by omega), if_pos h5]] at hB
  obtain ⟨g, hG, hg⟩ := (hR.2.2.2.2.2.1 h5).1
  refine Sp.of ok_L_rowCount trivial rfl ?_
  refine Ev.go 1 rfl ?_
  refine Ev.gf rfl lf_8_18_8 hB rfl ?_
  exact Ev.reti rfl (rfl)
theorem e_L_rowBits (d : Nat) {h : sn_H} {w : sn_Lw} {b : sn_Bk} {ad ru : Nat} (hw : WL w) (hb : WB w.1 b) (hR : BR h w b ad ru) (h5 : bk b = 5) {i : Nat} {iv : Int32} (e1 : iv = nI i) (hi : i < bc b) : Sp d me_L_rowBits [.ref ad, .int iv] h (some (.long (lN (br b i)))) h := by
  subst e1
  have hO := hR.1
  have hbc := hb.2.2.2.2.2.2.2.2.2.2.1
  have hbr := hb.2.2.2.2.2.2.2.2.2.2.2
  have hB := hO.1
  rw [h5, show bex b ad = [.ref (ad + 3), .ref (ad + 4), .int (nI (bc b))] by unfold bex; rw [if_neg (by omega), if_neg (by omega), if_pos h5]] at hB
  obtain ⟨g, hG, hg⟩ := (hR.2.2.2.2.2.1 h5).1
  refine Sp.of ok_L_rowBits trivial rfl ?_
  refine Ev.go 1 rfl ?_
  refine Ev.bf rfl rfl (nI_ge0 (by omega)) ?_
  refine Ev.go 2 rfl ?_
  refine Ev.gf rfl lf_8_18_8 hB rfl ?_
  refine Ev.ige rfl rfl rfl (by omega) (by omega) (fun c9 => ?_) (fun c9 => ?_)
  · refine Ev.go 1 rfl ?_
    exact absurd c9 (by omega)
  refine Ev.go 1 rfl ?_
  refine Ev.gf rfl lf_8_11_8 hB rfl ?_
  refine Ev.go 1 rfl ?_
  refine Ev.lln rfl hG rfl (by omega) (by omega) ?_
  rw [hg i (by omega)]
  refine Ev.go 1 rfl ?_
  exact Ev.retl rfl (rfl)
theorem e_B_rowCount (d : Nat) (h : sn_H) (ad : Nat) : Sp d me_B_rowCount [.ref ad] h (some (.int (nI 0))) h := by
  refine Sp.of ok_B_rowCount trivial rfl ?_
  refine Ev.go 1 rfl ?_
  exact Ev.reti rfl (rfl)
theorem e_B_rowBits (d : Nat) (h : sn_H) (ad : Nat) (iv : Int32) : Sp d me_B_rowBits [.ref ad, .int iv] h (some (.long (lN 0))) h := by
  refine Sp.of ok_B_rowBits trivial rfl ?_
  refine Ev.go 1 rfl ?_
  exact Ev.retl rfl (rfl)
theorem v_holds (d : Nat) {h : sn_H} {w : sn_Lw} {b : sn_Bk} {ad ru : Nat} (hw : WL w) (hb : WB w.1 b) (hR : BR h w b ad ru) {y : Nat} {yv : Int32} (e1 : yv = nI y) (hy : y < 32) : Sp (d + 3) (vt_holds (bk b + 3)) [.ref ad, .int yv] h (some (.int (b2i (isin w b y)))) h := by
  have hk : bk b = 0 ∨ bk b = 1 ∨ bk b = 2 ∨ bk b = 3 ∨ bk b = 4 ∨ bk b = 5 := by have := hb.1; omega
  rcases hk with e | e | e | e | e | e
  · rw [e]; exact e_P_holds d hw hb hR e1 hy (by omega)
  · rw [e]; exact e_P_holds d hw hb hR e1 hy (by omega)
  · rw [e]; exact e_P_holds d hw hb hR e1 hy (by omega)
  · rw [e]; exact e_U_holds (d + 1) hw hb hR e1 hy e
  · rw [e]; exact e_F_holds (d + 1) hw hb hR e1 hy e
  · rw [e]; exact e_L_holds (d + 1) hw hb hR e e1 hy
theorem v_rowCount (d : Nat) {h : sn_H} {w : sn_Lw} {b : sn_Bk} {ad ru : Nat} (hw : WL w) (hb : WB w.1 b) (hR : BR h w b ad ru) : Sp d (vt_rowCount (bk b + 3)) [.ref ad] h (some (.int (nI (bc b)))) h := by
  have hk : bk b = 0 ∨ bk b = 1 ∨ bk b = 2 ∨ bk b = 3 ∨ bk b = 4 ∨ bk b = 5 := by have := hb.1; omega
  by_cases h5 : bk b = 5
  · rw [h5]; exact e_L_rowCount d hw hb hR h5
  · have e0 := hR.2.2.2.2.2.2 h5
    rw [e0]
    rcases hk with e | e | e | e | e | e
    · rw [e]; exact e_B_rowCount d h ad
    · rw [e]; exact e_B_rowCount d h ad
    · rw [e]; exact e_B_rowCount d h ad
    · rw [e]; exact e_B_rowCount d h ad
    · rw [e]; exact e_B_rowCount d h ad
    · exact absurd e h5
theorem v_rowBits (d : Nat) {h : sn_H} {w : sn_Lw} {b : sn_Bk} {ad ru : Nat} (hw : WL w) (hb : WB w.1 b) (hR : BR h w b ad ru) {i : Nat} {iv : Int32} (e1 : iv = nI i) (hi : i < bc b) : Sp d (vt_rowBits (bk b + 3)) [.ref ad, .int iv] h (some (.long (lN (br b i)))) h := by
  by_cases h5 : bk b = 5
  · rw [h5]; exact e_L_rowBits d hw hb hR h5 e1 hi
  · exact absurd hi (by rw [hR.2.2.2.2.2.2 h5]; omega)
theorem e_B_keysHeld (d : Nat) {h : sn_H} {w : sn_Lw} {b : sn_Bk} {ad ru : Nat} (hw : WL w) (hb : WB w.1 b) (hR : BR h w b ad ru) : Sp (d + 4) me_B_keysHeld [.ref ad] h (some (.long (lN (ain w b)))) h := by
  have hB := hR.1.1
  have hci : sn_bk (bk b + 3) := sn_bk_of hb.1
  refine Sp.of ok_B_keysHeld trivial rfl ?_
  have L : ∀ (n : Nat) (i : Nat) (bv : Int64) (iv : Int32), (i + n = 32) → (bv = lN (orf (fun x => if isin w b x then 2 ^ x else 0) i)) → (iv = nI i) → Ev o0 (d + 4) me_B_keysHeld 4 [.ref ad, .long bv, .retAddr 0, .int iv] [] h (some (.long (lN (ain w b)))) h := by
    intro n
    induction n using Nat.strongRecOn with
    | _ n ih =>
      intro i bv iv h1 h2 e3
      subst h2
      subst e3
      refine Ev.go 2 rfl ?_
      refine Ev.ige rfl rfl rfl (by omega) (by omega) (fun c7 => ?_) (fun c7 => ?_)
      · refine Ev.go 1 rfl ?_
        exact Ev.retl rfl (by rw [show i = 32 by omega]; rfl)
      refine Ev.go 2 rfl ?_
      refine Ev.cv (E' := vt_holds (bk b + 3)) rfl (mkb_holds hci) (lvb_10_32 hci) rfl hB rfl (v_holds d hw hb hR rfl (by omega)) ?_
      refine Ev.zb rfl rfl (fun c15 => ?_) (fun c15 => ?_)
      · refine Ev.go 2 rfl ?_
        exact ih (n - 1) (by omega) (i + 1) _ _ (by omega) (by simp [orf, c15]) (by rw [nI_add])
      refine Ev.go 8 rfl ?_
      exact ih (n - 1) (by omega) (i + 1) _ _ (by omega) (by rw [sh1 (by omega)]; exact or_step (by simp [c15])) (by rw [nI_add])
  refine Ev.go 4 rfl ?_
  exact L 32 0 _ _ (by omega) rfl rfl
theorem v_keysHeld (d : Nat) {h : sn_H} {w : sn_Lw} {b : sn_Bk} {ad ru : Nat} (hw : WL w) (hb : WB w.1 b) (hR : BR h w b ad ru) : Sp (d + 4) (vt_keysHeld (bk b + 3)) [.ref ad] h (some (.long (lN (ain w b)))) h := by
  have hk : bk b = 0 ∨ bk b = 1 ∨ bk b = 2 ∨ bk b = 3 ∨ bk b = 4 ∨ bk b = 5 := by have := hb.1; omega
  rcases hk with e | e | e | e | e | e <;> rw [e] <;> exact e_B_keysHeld d hw hb hR
