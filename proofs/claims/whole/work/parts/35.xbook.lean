/-! THE CLASS: laws, places, what is filled -/
theorem e_W_valueFor (d : Nat) {h : sn_H} {ad a b y : Nat} {yv : Int32} (hL : h[ad]? = some (.inr (2, [.int (nI a), .int (nI b)]))) (e1 : yv = nI y) (ha : a ≤ 36) (hb : b ≤ 36) (hy : y < 32) : Sp d me_W_valueFor [.ref ad, .int yv] h (some (.int (nI (val a b y)))) h := by
  subst e1
  refine Sp.of ok_W_valueFor trivial rfl ?_
  refine Ev.go 1 rfl ?_
  refine Ev.gf rfl lf_2_9_2 hL rfl ?_
  refine Ev.go 3 rfl ?_
  refine Ev.gf rfl lf_2_15_2 hL rfl ?_
  refine Ev.go 2 rfl ?_
  refine Ev.rm rfl (by rw [pk_mul, nI_add]) rfl (lin ha hb hy) (by omega) (by omega) ?_
  exact Ev.reti rfl (rfl)
theorem e_W_placeFor (d : Nat) {h : sn_H} {ad a b y m : Nat} {yv mv : Int32} (hL : h[ad]? = some (.inr (2, [.int (nI a), .int (nI b)]))) (e1 : yv = nI y) (e2 : mv = nI m) (ha : a ≤ 36) (hb : b ≤ 36) (hy : y < 32) (hm : 0 < m) (hm2 : m ≤ 32) : Sp d me_W_placeFor [.ref ad, .int yv, .int mv] h (some (.int (nI (val a b y % m)))) h := by
  subst e1; subst e2
  refine Sp.of ok_W_placeFor trivial rfl ?_
  refine Ev.go 1 rfl ?_
  refine Ev.zle rfl rfl (by omega) (fun c1 => ?_) (fun c1 => ?_)
  · refine Ev.go 1 rfl ?_
    exact absurd c1 (by omega)
  refine Ev.go 1 rfl ?_
  refine Ev.gf rfl lf_2_9_2 hL rfl ?_
  refine Ev.go 3 rfl ?_
  refine Ev.gf rfl lf_2_15_2 hL rfl ?_
  refine Ev.go 2 rfl ?_
  refine Ev.rm rfl (by rw [pk_mul, nI_add]) rfl (lin ha hb hy) (by omega) (by omega) ?_
  refine Ev.go 1 rfl ?_
  refine Ev.rm rfl rfl rfl (by omega) (by omega) (by omega) ?_
  refine Ev.go 1 rfl ?_
  exact Ev.reti rfl (rfl)
theorem e_W_markFor (d : Nat) {h : sn_H} {ad a b y : Nat} {yv : Int32} (hL : h[ad]? = some (.inr (2, [.int (nI a), .int (nI b)]))) (e1 : yv = nI y) (ha : a ≤ 36) (hb : b ≤ 36) (hy : y < 32) : Sp d me_W_markFor [.ref ad, .int yv] h (some (.int (nI (val a b y % 7 + 1)))) h := by
  subst e1
  refine Sp.of ok_W_markFor trivial rfl ?_
  refine Ev.go 1 rfl ?_
  refine Ev.gf rfl lf_2_9_2 hL rfl ?_
  refine Ev.go 3 rfl ?_
  refine Ev.gf rfl lf_2_15_2 hL rfl ?_
  refine Ev.go 2 rfl ?_
  refine Ev.rm rfl (by rw [pk_mul, nI_add]) rfl (lin ha hb hy) (by omega) (by omega) ?_
  refine Ev.go 1 rfl ?_
  refine Ev.rm rfl rfl rfl (by omega) (by omega) (by omega) ?_
  refine Ev.go 2 rfl ?_
  exact Ev.reti rfl (by rw [nI_add]; rfl)
theorem e_P_placeBits (d : Nat) {h : sn_H} {w : sn_Lw} {b : sn_Bk} {ad ru : Nat} {ex : List Value} (hw : WL w) (hb : WB w.1 b) (hO : BO h w b ad ru ex) {y : Nat} {yv : Int32} (e1 : yv = nI y) (hy : y < 32) (hk : bk b = 0 ∨ bk b = 1 ∨ bk b = 5) : Sp (d + 1) me_P_placeBits [.ref ad, .int yv] h (some (.long (lN (pls w b y)))) h := by
  subst e1
  obtain ⟨hB, fr, hF, hfr⟩ := hO
  have hm := hb.2.1
  have hpc := hb.2.2.2.2.1
  have hbk := hb.1
  have hci : sn_pl (bk b + 3) := by unfold sn_pl; omega
  have epl : pls w b y = orf (fun j => 2 ^ (vl w b j y % bm b)) (pcnt (bl b)) := by
    unfold pls
    rw [if_neg (by omega)]
    refine orf_cong (fun j hj => ?_)
    unfold plc
    rw [if_neg (by omega)]
  rw [epl]
  refine Sp.of ok_P_placeBits trivial rfl ?_
  have L : ∀ (n : Nat) (j : Nat) (bv : Int64) (jv : Int32), (j + n = pcnt (bl b)) → (bv = lN (orf (fun j => 2 ^ (vl w b j y % bm b)) j)) → (jv = nI j) → Ev o0 (d + 1) me_P_placeBits 5 [.ref ad, .int (nI y), .long bv, .retAddr 0, .int jv] [] h (some (.long (lN (orf (fun j => 2 ^ (vl w b j y % bm b)) (pcnt (bl b)))))) h := by
    intro n
    induction n using Nat.strongRecOn with
    | _ n ih =>
      intro j bv jv h1 h2 e3
      subst h2
      subst e3
      refine Ev.go 2 rfl ?_
      refine Ev.gf rfl (lfb_3_7 (hci)) hB rfl ?_
      refine Ev.ln rfl hF rfl ?_
      refine Ev.ige rfl rfl rfl (by omega) (by omega) (fun c12 => ?_) (fun c12 => ?_)
      · refine Ev.go 1 rfl ?_
        exact Ev.retl rfl (by rw [show j = pcnt (bl b) by omega])
      obtain ⟨la, hla, hLa⟩ := hfr j (by omega)
      have hnt := hb.nt hw (j := j) (by omega)
      refine Ev.go 3 rfl ?_
      refine Ev.gf rfl (lfb_3_7 (hci)) hB rfl ?_
      refine Ev.go 1 rfl ?_
      refine Ev.aln rfl (Or.inl rfl) hF rfl (by omega) (by omega) hla ?_
      refine Ev.go 2 rfl ?_
      refine Ev.gf rfl (lfb_3_13 (hci)) hB rfl ?_
      refine Ev.cv (E' := me_W_placeFor) rfl mk_W_placeFor lv_3_17_2 rfl hLa rfl (e_W_placeFor d hLa rfl rfl hnt.2.1 hnt.2.2 hy (by omega) hm.2) ?_
      refine Ev.go 5 rfl ?_
      exact ih (n - 1) (by omega) (j + 1) _ _ (by omega) (by rw [sh1 (by have := Nat.mod_lt (vl w b j y) (show 0 < bm b by omega); unfold vl at this; omega)]; exact or_step rfl) (by rw [nI_add])
  refine Ev.go 4 rfl ?_
  exact L (pcnt (bl b)) 0 _ _ (by omega) rfl rfl
theorem e_A_placeBits (d : Nat) {h : sn_H} {w : sn_Lw} {b : sn_Bk} {ad ru : Nat} {ex : List Value} (hw : WL w) (hb : WB w.1 b) (hO : BO h w b ad ru ex) {y : Nat} {yv : Int32} (e1 : yv = nI y) (hy : y < 32) (hk : bk b = 2 ∨ bk b = 4) : Sp (d + 1) me_A_placeBits [.ref ad, .int yv] h (some (.long (lN (pls w b y)))) h := by
  subst e1
  obtain ⟨hB, fr, hF, hfr⟩ := hO
  have hm := hb.2.1
  have hpc := hb.2.2.2.2.1
  have hbk := hb.1
  have hci : sn_pt (bk b + 3) := by unfold sn_pt; omega
  have hp1 := prt_pos (b := b)
  have hp2 := prt_le hb
  have hq : bm b / pcnt (bl b) ≤ bm b := Nat.div_le_self _ _
  refine Sp.of ok_A_placeBits trivial rfl ?_
  have L : ∀ (n : Nat) (j : Nat) (bv : Int64) (jv : Int32), (j + n = pcnt (bl b)) → (bv = lN (orf (fun j => 2 ^ plc w b j y) j)) → (jv = nI j) → Ev o0 (d + 1) me_A_placeBits 35 [.ref ad, .int (nI y), .int (nI (prt b)), .long bv, .retAddr 0, .int jv] [] h (some (.long (lN (pls w b y)))) h := by
    intro n
    induction n using Nat.strongRecOn with
    | _ n ih =>
      intro j bv jv h1 h2 e3
      subst h2
      subst e3
      refine Ev.go 2 rfl ?_
      refine Ev.gf rfl (lfb_5_7 (hci)) hB rfl ?_
      refine Ev.ln rfl hF rfl ?_
      refine Ev.ige rfl rfl rfl (by omega) (by omega) (fun c42 => ?_) (fun c42 => ?_)
      · refine Ev.go 1 rfl ?_
        exact Ev.retl rfl (by rw [show j = pcnt (bl b) by omega]; unfold pls; rw [if_neg (by omega)])
      obtain ⟨la, hla, hLa⟩ := hfr j (by omega)
      have hnt := hb.nt hw (j := j) (by omega)
      have h3 : j * prt b ≤ 3 * 32 := Nat.mul_le_mul (by omega) hp2
      have h4 := Nat.mod_lt (val (w.2.1 (nth (bl b) j)) (w.2.2 (nth (bl b) j)) y) (show 0 < prt b by omega)
      refine Ev.go 6 rfl ?_
      refine Ev.gf rfl (lfb_5_7 (hci)) hB rfl ?_
      refine Ev.go 1 rfl ?_
      refine Ev.aln rfl (Or.inl rfl) hF rfl (by omega) (by omega) hla ?_
      refine Ev.go 2 rfl ?_
      refine Ev.cv (E' := me_W_placeFor) rfl mk_W_placeFor lv_5_23_2 rfl hLa rfl (e_W_placeFor d hLa rfl rfl hnt.2.1 hnt.2.2 hy (by omega) (by omega)) ?_
      refine Ev.go 2 rfl ?_
      refine Ev.gf rfl (lfb_5_13 (hci)) hB rfl ?_
      refine Ev.cs (E' := me_X_rest) rfl mk_X_rest ls_5_28 rfl rfl (e_X_rest d h (by rw [pk_mul, nI_add]) rfl (by omega) (by omega) (by omega)) ?_
      refine Ev.go 5 rfl ?_
      exact ih (n - 1) (by omega) (j + 1) _ _ (by omega) (by rw [sh1 (by have := Nat.mod_lt (j * prt b + val (w.2.1 (nth (bl b) j)) (w.2.2 (nth (bl b) j)) y % prt b) (show 0 < bm b by omega); omega)]; exact or_step (by unfold plc; rw [if_pos hk]; rfl)) (by rw [nI_add])
  refine Ev.go 1 rfl ?_
  refine Ev.gf rfl (lfb_5_7 (hci)) hB rfl ?_
  refine Ev.ln rfl hF rfl ?_
  refine Ev.zle rfl rfl (by omega) (fun c5 => ?_) (fun c5 => ?_)
  · refine Ev.go 1 rfl ?_
    refine Ev.gf rfl (lfb_5_13 (hci)) hB rfl ?_
    exact absurd c5 (by omega)
  refine Ev.go 2 rfl ?_
  refine Ev.gf rfl (lfb_5_13 (hci)) hB rfl ?_
  refine Ev.go 1 rfl ?_
  refine Ev.gf rfl (lfb_5_7 (hci)) hB rfl ?_
  refine Ev.ln rfl hF rfl ?_
  refine Ev.dv rfl rfl rfl (by omega) (by omega) (by omega) ?_
  refine Ev.mx rfl lm_5_17 rfl ?_
  refine Ev.go 1 rfl ?_
  rw [mx_N (by omega) (by omega)]
  refine Ev.go 5 rfl ?_
  exact L (pcnt (bl b)) 0 _ _ (by omega) rfl rfl
theorem e_U_firstPlace (d : Nat) {h : sn_H} {w : sn_Lw} {b : sn_Bk} {ad ru : Nat} {ex : List Value} (hw : WL w) (hb : WB w.1 b) (hO : BO h w b ad ru ex) (h3 : bk b = 3) {y : Nat} {yv : Int32} (e1 : yv = nI y) (hy : y < 32) : Sp (d + 1) me_U_firstPlace [.ref ad, .int yv] h (some (.int (nI (frs w b y)))) h := by
  subst e1
  obtain ⟨hB, fr, hF, hfr⟩ := hO
  have hm := hb.2.1
  have hpc := hb.2.2.2.2.1
  have hbk := hb.1
  have hp2 := hb.2.2.2.2.2.1 h3
  rw [h3] at hB
  obtain ⟨la, hla, hLa⟩ := hfr 0 (by omega)
  have hnt := hb.nt hw (j := 0) (by omega)
  refine Sp.of ok_U_firstPlace trivial rfl ?_
  refine Ev.go 1 rfl ?_
  refine Ev.gf rfl lf_6_24_6 hB rfl ?_
  refine Ev.ln rfl hF rfl ?_
  refine Ev.zle rfl rfl (by omega) (fun c5 => ?_) (fun c5 => ?_)
  · refine Ev.go 1 rfl ?_
    exact absurd c5 (by omega)
  refine Ev.go 1 rfl ?_
  refine Ev.gf rfl lf_6_24_6 hB rfl ?_
  refine Ev.go 1 rfl ?_
  refine Ev.aln rfl (Or.inl rfl) hF rfl (by omega) (by omega) hla ?_
  refine Ev.go 2 rfl ?_
  refine Ev.gf rfl lf_6_28_6 hB rfl ?_
  refine Ev.cv (E' := me_W_placeFor) rfl mk_W_placeFor lv_6_32_2 rfl hLa rfl (e_W_placeFor d hLa rfl rfl hnt.2.1 hnt.2.2 hy (by omega) hm.2) ?_
  refine Ev.go 1 rfl ?_
  exact Ev.reti rfl (rfl)
theorem e_U_markOf (d : Nat) {h : sn_H} {w : sn_Lw} {b : sn_Bk} {ad ru : Nat} {ex : List Value} (hw : WL w) (hb : WB w.1 b) (hO : BO h w b ad ru ex) (h3 : bk b = 3) {y : Nat} {yv : Int32} (e1 : yv = nI y) (hy : y < 32) : Sp (d + 1) me_U_markOf [.ref ad, .int yv] h (some (.int (nI (mrk w b 1 y)))) h := by
  subst e1
  obtain ⟨hB, fr, hF, hfr⟩ := hO
  have hm := hb.2.1
  have hpc := hb.2.2.2.2.1
  have hbk := hb.1
  have hp2 := hb.2.2.2.2.2.1 h3
  rw [h3] at hB
  obtain ⟨la, hla, hLa⟩ := hfr 1 (by omega)
  have hnt := hb.nt hw (j := 1) (by omega)
  refine Sp.of ok_U_markOf trivial rfl ?_
  refine Ev.go 1 rfl ?_
  refine Ev.gf rfl lf_6_24_6 hB rfl ?_
  refine Ev.ln rfl hF rfl ?_
  refine Ev.go 1 rfl ?_
  refine Ev.ile rfl rfl rfl (by omega) (by omega) (fun c6 => ?_) (fun c6 => ?_)
  · refine Ev.go 1 rfl ?_
    exact absurd c6 (by omega)
  refine Ev.go 1 rfl ?_
  refine Ev.gf rfl lf_6_24_6 hB rfl ?_
  refine Ev.go 1 rfl ?_
  refine Ev.aln rfl (Or.inl rfl) hF rfl (by omega) (by omega) hla ?_
  refine Ev.go 1 rfl ?_
  refine Ev.cv (E' := me_W_markFor) rfl mk_W_markFor lv_6_38_2 rfl hLa rfl (e_W_markFor d hLa rfl hnt.2.1 hnt.2.2 hy) ?_
  refine Ev.go 1 rfl ?_
  exact Ev.reti rfl (rfl)
theorem e_U_otherPlace (d : Nat) {h : sn_H} {w : sn_Lw} {b : sn_Bk} {ad ru : Nat} {ex : List Value} (hw : WL w) (hb : WB w.1 b) (hO : BO h w b ad ru ex) (h3 : bk b = 3) {p f : Nat} {pv fv : Int32} (e1 : pv = nI p) (e2 : fv = nI f) (hp : p < bm b) (hf : f < 8) : Sp (d + 1) me_U_otherPlace [.ref ad, .int pv, .int fv] h (some (.int (nI (oth (bm b) p f)))) h := by
  subst e1; subst e2
  obtain ⟨hB, fr, hF, hfr⟩ := hO
  have hm := hb.2.1
  have hpc := hb.2.2.2.2.1
  have hbk := hb.1
  have hp2 := hb.2.2.2.2.2.1 h3
  rw [h3] at hB
  refine Sp.of ok_U_otherPlace trivial rfl ?_
  refine Ev.go 6 rfl ?_
  refine Ev.gf rfl lf_6_28_6 hB rfl ?_
  refine Ev.cs (E' := me_X_rest) rfl mk_X_rest ls_6_42 rfl rfl (e_X_restO d h rfl rfl hf hp (by omega)) ?_
  exact Ev.reti rfl (rfl)
theorem e_U_placeBits (d : Nat) {h : sn_H} {w : sn_Lw} {b : sn_Bk} {ad ru : Nat} {ex : List Value} (hw : WL w) (hb : WB w.1 b) (hO : BO h w b ad ru ex) (h3 : bk b = 3) {y : Nat} {yv : Int32} (e1 : yv = nI y) (hy : y < 32) : Sp (d + 2) me_U_placeBits [.ref ad, .int yv] h (some (.long (lN (pls w b y)))) h := by
  subst e1
  have hO2 := hO
  obtain ⟨hB, fr, hF, hfr⟩ := hO
  have hm := hb.2.1
  have hpc := hb.2.2.2.2.1
  have hbk := hb.1
  have hp2 := hb.2.2.2.2.2.1 h3
  rw [h3] at hB
  have hf := frs_lt (w := w) hb y
  have hmk := mrk_le (w := w) (b := b) 1 y
  refine Sp.of ok_U_placeBits trivial rfl ?_
  refine Ev.go 2 rfl ?_
  refine Ev.cv (E' := me_U_firstPlace) rfl mk_U_firstPlace lv_6_45_6 rfl hB rfl (e_U_firstPlace d hw hb hO2 h3 rfl hy) ?_
  refine Ev.go 9 rfl ?_
  refine Ev.cv (E' := me_U_markOf) rfl mk_U_markOf lv_6_48_6 rfl hB rfl (e_U_markOf d hw hb hO2 h3 rfl hy) ?_
  refine Ev.cv (E' := me_U_otherPlace) rfl mk_U_otherPlace lv_6_51_6 rfl hB rfl (e_U_otherPlace d hw hb hO2 h3 rfl rfl hf (by omega)) ?_
  refine Ev.go 2 rfl ?_
  exact Ev.retl rfl (by rw [sh1 (by omega), sh1 (by have := oth_lt (frs w b y) (mrk w b 1 y) (show 0 < bm b by omega); omega), fb_orL]; unfold pls; rw [if_pos h3])
theorem v_placeBits (d : Nat) {h : sn_H} {w : sn_Lw} {b : sn_Bk} {ad ru : Nat} {ex : List Value} (hw : WL w) (hb : WB w.1 b) (hO : BO h w b ad ru ex) {y : Nat} {yv : Int32} (e1 : yv = nI y) (hy : y < 32) : Sp (d + 2) (vt_placeBits (bk b + 3)) [.ref ad, .int yv] h (some (.long (lN (pls w b y)))) h := by
  have hk : bk b = 0 ∨ bk b = 1 ∨ bk b = 2 ∨ bk b = 3 ∨ bk b = 4 ∨ bk b = 5 := by have := hb.1; omega
  rcases hk with e | e | e | e | e | e
  · rw [e]; exact e_P_placeBits (d + 1) hw hb hO e1 hy (by omega)
  · rw [e]; exact e_P_placeBits (d + 1) hw hb hO e1 hy (by omega)
  · rw [e]; exact e_A_placeBits (d + 1) hw hb hO e1 hy (by omega)
  · rw [e]; exact e_U_placeBits d hw hb hO e e1 hy
  · rw [e]; exact e_A_placeBits (d + 1) hw hb hO e1 hy (by omega)
  · rw [e]; exact e_P_placeBits (d + 1) hw hb hO e1 hy (by omega)
theorem e_B_filledPlaces (d : Nat) {h : sn_H} {b : sn_Bk} {ad ru nl : Nat} {ex : List Value} (hb : WB nl b) (hB : h[ad]? = some (.inr (bk b + 3, bfs b ad ru ex))) (hN : NU h b ad) : Sp d me_B_filledPlaces [.ref ad] h (some (.long (lN (fil b)))) h := by
  obtain ⟨f, hf, hfn⟩ := hN
  have hm := hb.2.1
  have hci : sn_bk (bk b + 3) := sn_bk_of hb.1
  refine Sp.of ok_B_filledPlaces trivial rfl ?_
  have L : ∀ (n : Nat) (i : Nat) (bv : Int64) (iv : Int32), (i + n = bm b) → (bv = lN (orf (fun i => if 0 < bn b i then 2 ^ i else 0) i)) → (iv = nI i) → Ev o0 d me_B_filledPlaces 4 [.ref ad, .long bv, .retAddr 0, .int iv] [] h (some (.long (lN (fil b)))) h := by
    intro n
    induction n using Nat.strongRecOn with
    | _ n ih =>
      intro i bv iv h1 h2 e3
      subst h2
      subst e3
      refine Ev.go 2 rfl ?_
      refine Ev.gf rfl (lfb_10_15 (hci)) hB rfl ?_
      refine Ev.ige rfl rfl rfl (by omega) (by omega) (fun c9 => ?_) (fun c9 => ?_)
      · refine Ev.go 1 rfl ?_
        exact Ev.retl rfl (by rw [show i = bm b by omega]; rfl)
      refine Ev.go 1 rfl ?_
      refine Ev.gf rfl (lfb_10_25 (hci)) hB rfl ?_
      refine Ev.go 1 rfl ?_
      refine Ev.iln rfl hf rfl (by omega) (by omega) ?_
      rw [hfn i (by omega)]
      refine Ev.zle rfl rfl (by have := hb.2.2.2.2.2.2.2.1 i; omega) (fun c18 => ?_) (fun c18 => ?_)
      · refine Ev.go 2 rfl ?_
        exact ih (n - 1) (by omega) (i + 1) _ _ (by omega) (by simp [orf, c18]) (by rw [nI_add])
      refine Ev.go 8 rfl ?_
      exact ih (n - 1) (by omega) (i + 1) _ _ (by omega) (by rw [sh1 (by omega)]; exact or_step (by simp [c18])) (by rw [nI_add])
  refine Ev.go 4 rfl ?_
  exact L (bm b) 0 _ _ (by omega) rfl rfl
theorem e_B_keysReally (d : Nat) {h : sn_H} {b : sn_Bk} {ad ru nl : Nat} {ex : List Value} (hb : WB nl b) (hB : h[ad]? = some (.inr (bk b + 3, bfs b ad ru ex))) (hT : TI h b ad) : Sp d me_B_keysReally [.ref ad] h (some (.long (lN (rin b)))) h := by
  obtain ⟨f, hf, hfn⟩ := hT
  have hm := hb.2.1
  have hci : sn_bk (bk b + 3) := sn_bk_of hb.1
  refine Sp.of ok_B_keysReally trivial rfl ?_
  have L : ∀ (n : Nat) (i : Nat) (bv : Int64) (iv : Int32), (i + n = 32) → (bv = lN (orf (fun x => if 0 < bt b x then 2 ^ x else 0) i)) → (iv = nI i) → Ev o0 d me_B_keysReally 4 [.ref ad, .long bv, .retAddr 0, .int iv] [] h (some (.long (lN (rin b)))) h := by
    intro n
    induction n using Nat.strongRecOn with
    | _ n ih =>
      intro i bv iv h1 h2 e3
      subst h2
      subst e3
      refine Ev.go 2 rfl ?_
      refine Ev.ige rfl rfl rfl (by omega) (by omega) (fun c7 => ?_) (fun c7 => ?_)
      · refine Ev.go 1 rfl ?_
        exact Ev.retl rfl (by rw [show i = 32 by omega]; rfl)
      refine Ev.go 1 rfl ?_
      refine Ev.gf rfl (lfb_10_29 (hci)) hB rfl ?_
      refine Ev.go 1 rfl ?_
      refine Ev.iln rfl hf rfl (by omega) (by omega) ?_
      rw [hfn i (by omega)]
      refine Ev.zle rfl rfl (by have := hb.2.2.2.2.2.2.2.2.2.1 i; omega) (fun c16 => ?_) (fun c16 => ?_)
      · refine Ev.go 2 rfl ?_
        exact ih (n - 1) (by omega) (i + 1) _ _ (by omega) (by simp [orf, c16]) (by rw [nI_add])
      refine Ev.go 8 rfl ?_
      exact ih (n - 1) (by omega) (i + 1) _ _ (by omega) (by rw [sh1 (by omega)]; exact or_step (by simp [c16])) (by rw [nI_add])
  refine Ev.go 4 rfl ?_
  exact L 32 0 _ _ (by omega) rfl rfl
